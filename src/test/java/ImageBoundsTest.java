import java.util.Arrays;

/** Promises 29 to 31 at their bounds: images. */
public final class ImageBoundsTest {
    private static final int MIN = Integer.MIN_VALUE;
    private static final int MAX = Integer.MAX_VALUE;

    /** Bytes with the last one behind them. */
    private static int[] withLast(int... bytes) {
        int[] all = Arrays.copyOf(bytes, bytes.length + 1);
        int c = 11;
        for (int b : bytes) {
            c = (7 * c + b) % 239;
        }
        all[bytes.length] = c;
        return all;
    }

    /** The image of some rolls, -2 a foul. */
    private static int[] imageOf(int... rolls) {
        int[] bytes = new int[rolls.length + 1];
        bytes[0] = rolls.length;
        for (int i = 0; i < rolls.length; i++) {
            bytes[i + 1] = rolls[i] == -2 ? 200 : rolls[i];
        }
        return withLast(bytes);
    }

    private static void octetsAre(NinepinAlley x, int... want) {
        for (int k = 0; k < want.length; k++) {
            Check.due("octet(" + k + ")", x.octet(k), want[k]);
        }
        int[] never = {-1, -2, want.length, want.length + 1, 29, 30, 255, MAX, MIN};
        for (int k : never) {
            Check.due("octet(" + k + ")", x.octet(k), k >= 0 && k < want.length ? want[k] : -1);
        }
    }

    // ---- promises 29 and 30

    private static void imagesOfEveryLength() {
        Check.promise(29, "AN IMAGE is written: how many bytes");
        int[] rolls = {1, 3, -2, 1, 4, 3, 1, -2};
        for (int n = 0; n <= rolls.length; n++) {
            NinepinAlley x = Made.with(n);
            Check.due("image() of " + n, x.image(), n + 2);
            octetsAre(x, imageOf(Arrays.copyOf(rolls, n)));
        }
        NinepinAlley x = Check.of("pins 1; frames 8; rolls 3; clean 3 earns 3;");
        int[] longest = new int[27];
        for (int i = 0; i < 27; i++) {
            longest[i] = i > 23 || i % 3 == 2 ? 1 : i % 3 == 1 ? -2 : 0;
            Check.rolls(x, longest[i]);
        }
        Check.due("image() of the longest", x.image(), 29);
        octetsAre(x, imageOf(longest));
        Check.due("image() again", x.image(), 29);
        octetsAre(x, imageOf(longest));
        Check.promise(29, "a byte for how many ROLLS, for each what it takes (200: a FOUL), last a byte");
        octetsAre(afterImage(), 0, 77);
        octetsAre(afterImage(0), 1, 0, 68);
        octetsAre(afterImage(9), 1, 9, 77);
        octetsAre(afterImage(-2), 1, 200, 29);
        octetsAre(afterImage(0, 9), 2, 0, 9, 56);
        Check.promise(29, "all ahead from 11 on, c = (7 c + it) mod 239");
        for (int a = 0; a <= 9; a++) {
            for (int b = 0; a + b <= 9; b++) {
                Check.due("octet(3) of " + a + ", " + b, afterImage(a, b).octet(3), imageOf(a, b)[3]);
            }
        }
        // the last byte wraps round at 239
        octetsAre(afterImage(find(0)), imageOf(find(0)));
        Check.due("a last byte of 0", afterImage(find(0)).octet(4), 0);
        Check.due("a last byte of 238", afterImage(find(238)).octet(4), 238);
        State.stays("octet(-1)", Made::torn, y -> Check.due("octet", y.octet(-1), -1));
        State.stays("octet(5)", Made::torn, y -> Check.due("octet", y.octet(5), -1));
    }

    /** Rolls of an empty game whose image ends with a byte. */
    private static int[] find(int last) {
        for (int a = 0; a <= 8; a++) {
            for (int b = 0; a + b <= 9; b++) {
                for (int c = 0; c <= 9; c++) {
                    if (imageOf(a, b, c)[4] == last) {
                        return new int[] {a, b, c};
                    }
                }
            }
        }
        return new int[0];
    }

    private static NinepinAlley afterImage(int... rolls) {
        NinepinAlley x = new NinepinAlley();
        Check.rolls(x, rolls);
        x.image();
        return x;
    }

    private static void theLatest() {
        Check.promise(30, "Byte k of the latest image(); NONE when there is none such");
        NinepinAlley x = new NinepinAlley();
        octetsAre(x);
        Check.rolls(x, 3, 4);
        octetsAre(x);
        x.image();
        int[] first = imageOf(3, 4);
        octetsAre(x, first);
        // nothing but image() changes it
        Check.rolls(x, 9);
        octetsAre(x, first);
        x.back();
        x.back();
        octetsAre(x, first);
        x.clear();
        octetsAre(x, first);
        Check.tape(x, imageOf(1, 2, 3));
        Check.due("on()", x.on(), true);
        octetsAre(x, first);
        Check.tape(x, 1, 1, 1);
        Check.due("on()", x.on(), false);
        octetsAre(x, first);
        Check.game(x, "pins 4;");
        octetsAre(x, first);
        Check.game(x, "pins 4");
        octetsAre(x, first);
        // a shorter one leaves nothing of a longer one
        x.image();
        octetsAre(x, 0, 77);
        Check.rolls(x, 4);
        x.image();
        octetsAre(x, imageOf(4));
        Check.promise(29, "image() changes nothing else");
        NinepinAlley one = Made.torn();
        one.image();
        NinepinAlley other = Made.torn();
        other.image();
        other.image();
        State.alike("image() twice", one, other);
        one = Made.halfway();
        one.image();
        Check.rolls(one, 0, 0);
        other = Made.halfway();
        Check.rolls(other, 0, 0);
        other.back();
        other.back();
        other.image();
        Check.rolls(other, 0, 0);
        State.alike("image() in the midst", one, other);
    }

    // ---- promise 31

    private static void taken(NinepinAlley x, boolean want, int... bytes) {
        Check.tape(x, bytes);
        Check.due("on() of " + Arrays.toString(bytes), x.on(), want);
        Check.due("the tape went", x.end(1), false);
    }

    private static void isTaken() {
        Check.promise(31, "true, THE SHEET is as it tells, nothing is TORN");
        int[] rolls = {1, 3, -2, 1, 4, 3, 1, -2};
        for (int n = 0; n <= rolls.length; n++) {
            int[] some = Arrays.copyOf(rolls, n);
            NinepinAlley x = Made.torn();
            taken(x, true, imageOf(some));
            NinepinAlley other = Made.with(n);
            other.end(0);
            State.alike("an image of " + n + " rolls", x, other);
            x = Made.halfway();
            taken(x, true, imageOf(some));
            other = Made.with(n);
            other.end(0);
            State.alike("an image of " + n + " rolls over another sheet", x, other);
        }
        // its rolls go on as others do
        NinepinAlley x = Made.noRolls();
        taken(x, true, imageOf(1, 3, -2));
        Check.due("roll(5)", x.roll(5), false);
        Check.rolls(x, 1, 4, 3, 1, -2);
        x.back();
        Check.due("sheet(0)", x.sheet(0), 7);
        Check.due("clear()", x.clear(), 7);
        taken(x, true, imageOf(1));
        taken(x, true, imageOf(2));
        Check.due("the second of two images", x.rolled(0), 2);
        Check.due("and not both", x.sheet(0), 1);
        x = Check.of("pins 1; frames 8; rolls 3; clean 3 earns 3;");
        int[] longest = new int[27];
        for (int i = 0; i < 27; i++) {
            longest[i] = i > 23 || i % 3 == 2 ? 1 : 0;
        }
        taken(x, true, imageOf(longest));
        Check.due("the longest", x.sheet(0), 27);
        Check.due("is whole", x.sheet(4), 1);
        Check.due("its total", x.total(), 8 + 7 + 3);
        taken(x, false, imageOf(Arrays.copyOf(longest, 28)));
    }

    /** Bytes that are no image leave all as it is. */
    private static void refused(int... bytes) {
        NinepinAlley x = Made.torn();
        taken(x, false, bytes);
        NinepinAlley other = Made.torn();
        other.end(0);
        State.alike("no image: " + Arrays.toString(bytes), x, other);
        taken(Made.halfway(), false, bytes);
    }

    private static void isNone() {
        Check.promise(31, "false when it is none (all stays): its length");
        refused();
        refused(0);
        refused(11);
        refused(77);
        refused(withLast());
        refused(0, 77, 32);
        refused(0, 77, (7 * 77 + 77) % 239);
        refused(withLast(0, 1));
        refused(withLast(1));
        refused(withLast(2, 1));
        refused(withLast(1, 1, 1));
        refused(withLast(255));
        refused(withLast(254, 1));
        refused(withLast(1, 1)[0], 1);
        Check.promise(31, "false when it is none (all stays): its last byte");
        int[] image = imageOf(1, 2);
        for (int b = 0; b < 256; b++) {
            NinepinAlley x = Made.noRolls();
            taken(x, b == image[3], 2, 1, 2, b);
            Check.due("sheet(0)", x.sheet(0), b == image[3] ? 2 : 0);
        }
        refused(0, 76);
        refused(0, 78);
        refused(image[0], image[1], image[2], image[3] + 1);
        refused(image[0], image[1], image[2], image[3] - 1);
        // 239 more is the same in the sum, but another byte
        int[] low = imageOf(find(0));
        Check.due("a last byte of 0", low[4], 0);
        taken(Made.fresh(), true, low);
        low[4] = 239;
        taken(Made.fresh(), false, low);
        int[] high = imageOf(find(238));
        taken(Made.fresh(), true, high);
        high[4] = 0;
        taken(Made.fresh(), false, high);
        // wrong in another byte alone
        refused(image[0], image[1] + 1, image[2], image[3]);
        refused(image[0], image[1], image[2] - 1, image[3]);
    }

    private static void rollsThatCannotBe() {
        Check.promise(31, "It is taken, if each ROLL can be");
        for (int b = 0; b < 256; b++) {
            NinepinAlley x = Made.noRolls();
            boolean can = b <= 4 || b == 200;
            taken(x, can, withLast(1, b));
            Check.due("sheet(0)", x.sheet(0), can ? 1 : 0);
            Check.due("rolled(0)", x.rolled(0), b == 200 ? -2 : can ? b : -1);
            x = Made.noRolls();
            can = b <= 3 || b == 200;
            taken(x, can, withLast(2, 1, b));
            Check.due("sheet(0)", x.sheet(0), can ? 2 : 0);
        }
        int[] bytes = {5, 199, 201, 254, 255, 128};
        for (int b : bytes) {
            refused(withLast(1, b));
            refused(withLast(3, 1, 3, b));
            refused(withLast(6, 1, 3, 200, 1, 4, b));
        }
        refused(withLast(2, 1, 4));
        refused(withLast(2, 3, 2));
        // one pin is left among the fills
        refused(withLast(7, 1, 3, 200, 1, 4, 3, 2));
        // rolls behind a whole sheet
        refused(withLast(9, 1, 3, 200, 1, 4, 3, 1, 200, 0));
        refused(withLast(9, 1, 3, 200, 1, 4, 3, 1, 200, 200));
        refused(withLast(7, 1, 0, 1, 0, 1, 0, 0));
        Check.promise(31, "each ROLL can be: of the GAME at hand");
        NinepinAlley x = new NinepinAlley();
        taken(x, true, imageOf(9));
        Check.game(x, "pins 8;");
        taken(x, false, imageOf(9));
        Check.due("sheet(0)", x.sheet(0), 0);
        taken(x, true, imageOf(8));
        Check.game(x, "pins 9;?");
        taken(x, false, imageOf(9));
        Check.due("the sheet behind it", x.rolled(0), 8);
        Check.promise(31, "The tape (it goes)");
        x = Made.whole();
        Check.due("on() of a text", x.on(), false);
        Check.due("the tape went", x.end(1), false);
        Check.due("on() of an empty tape", x.on(), false);
        State.stays("on() of an empty tape", () -> {
            NinepinAlley y = Made.torn();
            y.end(0);
            return y;
        }, y -> Check.due("on", y.on(), false));
        x = Made.fullTape();
        Check.due("on() of 700 bytes", x.on(), false);
        Check.due("the tape went", x.end(1), false);
        Check.due("the sheet stays", x.total(), 16);
    }

    public static void main(String[] args) {
        imagesOfEveryLength();
        theLatest();
        isTaken();
        isNone();
        rollsThatCannotBe();
        Check.end();
    }
}
