/** Promises 1 to 3 at their bounds: a new object, feed, end. */
public final class TapeBoundsTest {
    private static final int BLANKS = 0x20202020;
    private static final int MIN = Integer.MIN_VALUE;
    private static final int MAX = Integer.MAX_VALUE;

    private static int blanks(NinepinAlley x) {
        return x.feed(BLANKS, BLANKS, BLANKS, BLANKS, BLANKS);
    }

    /** A new object whose tape has so many blanks. */
    private static NinepinAlley taped(int n) {
        NinepinAlley x = new NinepinAlley();
        for (int fed = 0; fed < n; fed += 20) {
            blanks(x);
        }
        Check.due("end(" + n + ")", x.end(n), true);
        return x;
    }

    // ---- promise 1

    private static void anEmptyGame() {
        Check.promise(1, "An empty GAME");
        int[] has = {9, 6, 2, 0, 0, 0, 0, 0, 0};
        NinepinAlley x = new NinepinAlley();
        for (int what = 0; what < has.length; what++) {
            Check.due("has(" + what + ")", x.has(what), has[what]);
        }
        Check.due("no join: leaves(511)", x.leaves(511), 9);
        Check.due("no worth: come(false)", x.come(false), 0);
        Check.due("no worth: come(true)", x.come(true), 54);
        NinepinAlley other = new NinepinAlley();
        Check.due("game() of an empty tape", other.game(), 0);
        State.alike("a new object and one with an empty game", new NinepinAlley(), other);
    }

    private static void anEmptySheet() {
        Check.promise(1, "an empty SHEET");
        NinepinAlley x = new NinepinAlley();
        int[] sheet = {0, 0, 0, 9, 0, 0};
        for (int what = 0; what < sheet.length; what++) {
            Check.due("sheet(" + what + ")", x.sheet(what), sheet[what]);
        }
        Check.due("rolled(0)", x.rolled(0), -1);
        Check.due("frame(0, 1)", x.frame(0, 1), -1);
        Check.due("back()", x.back(), false);
        Check.due("clear()", x.clear(), 0);
        Check.due("image()", x.image(), 2);
    }

    private static void nothingTornAndNoTotals() {
        Check.promise(1, "nothing TORN");
        NinepinAlley x = new NinepinAlley();
        Check.rolls(x, 0, 0, 0, 0, 0, 0, 0, 0, 0, 0, 0, 0);
        Check.due("fits(0, true)", x.fits(0, true), 1);
        Check.promise(1, "PLAYERS have none");
        x = new NinepinAlley();
        for (int p = 0; p < 6; p++) {
            for (int what = 0; what < 6; what++) {
                Check.due("player(" + p + ", " + what + ")", x.player(p, what), 0);
            }
            Check.due("place(" + p + ")", x.place(p), 0);
        }
        Check.promise(1, "a new object has no tape, no image and no fault");
        Check.due("end(1)", x.end(1), false);
        Check.due("end(0)", x.end(0), true);
        Check.due("octet(0)", x.octet(0), -1);
        Check.due("fault(0)", x.fault(0), 0);
        Check.due("fault(1)", x.fault(1), -1);
        Check.due("NONE", NinepinAlley.NONE, -1);
        Check.due("FOUL", NinepinAlley.FOUL, -2);
    }

    /** No object knows anything of another one. */
    private static void objectsApart() {
        Check.promise(1, "each new object is new");
        Made.torn();
        State.alike("an object made behind another", new NinepinAlley(), new NinepinAlley());
        NinepinAlley first = new NinepinAlley();
        NinepinAlley second = Made.whole();
        Check.due("the first one's frames", first.has(1), 6);
        Check.due("the second one's frames", second.has(1), 3);
        Check.due("the first one's rolls", first.sheet(0), 0);
        Check.due("the second one's rolls", second.sheet(0), 8);
    }

    // ---- promise 2

    private static void howManyThereAre() {
        Check.promise(2, "Twenty bytes come behind those on the tape: how many there are");
        NinepinAlley x = new NinepinAlley();
        for (int n = 20; n <= 700; n += 20) {
            Check.due("feed", blanks(x), n);
        }
        int[] sizes = {0, 1, 19, 20, 679, 680};
        for (int size : sizes) {
            Check.due("feed behind " + size, blanks(taped(size)), size + 20);
        }
    }

    private static void moreThanFit() {
        Check.promise(2, "NONE, doing nothing, if there would be more than 700");
        int[] sizes = {681, 682, 699, 700};
        for (int size : sizes) {
            NinepinAlley x = taped(size);
            Check.due("feed behind " + size, x.feed(0, 0, 0, 0, 0), -1);
            Check.due("and once more", x.feed(0, 0, 0, 0, 0), -1);
            Check.due("end(" + (size + 1) + ")", x.end(size + 1), false);
            Check.due("end(" + size + ")", x.end(size), true);
            Check.due("the bytes are blanks still", x.game(), 0);
        }
        State.stays("feed on a full tape", Made::fullTape, x -> Check.due("feed", x.feed(1, 2, 3, 4, 5), -1));
        NinepinAlley x = taped(681);
        x.feed(0, 0, 0, 0, 0);
        Check.due("end(680)", x.end(680), true);
        Check.due("there is room again", x.feed(BLANKS, BLANKS, BLANKS, BLANKS, 0x2020203B), 700);
        Check.due("game()", x.game(), -1);
        Check.due("the last of 700 bytes", x.fault(1), 699);
        Check.due("the tape went, and has room for 20", blanks(x), 20);
    }

    private static void orderOfBytes() {
        Check.promise(2, "of each number the highest first");
        NinepinAlley x = new NinepinAlley();
        // joins 0 1;joins 2 3; : each of the twenty bytes counts
        Check.due("feed", x.feed(0x6A6F696E, 0x73203020, 0x313B6A6F, 0x696E7320, 0x3220333B), 20);
        Check.due("game()", x.game(), 2);
        Check.due("0 and 1", x.split(3), 0);
        Check.due("2 and 3", x.split(12), 0);
        Check.due("1 and 2", x.split(6), 1);
        Check.promise(2, "behind those on the tape");
        x = new NinepinAlley();
        Check.tape(x, "frames ");
        Check.due("feed", x.feed(0x353B2020, BLANKS, BLANKS, BLANKS, BLANKS), 27);
        Check.due("game()", x.game(), 1);
        Check.due("has(1)", x.has(1), 5);
        // a byte of 128 and more in each place of a number
        Check.promise(2, "bytes of 128 and more");
        int[] rolls = {2, 200, 200, 0};
        int check = 11;
        for (int i = 0; i < 3; i++) {
            check = (7 * check + rolls[i]) % 239;
        }
        x = new NinepinAlley();
        x.feed(0x02C8C800 | check, -1, MIN, MAX, 0);
        x.end(4);
        Check.due("on()", x.on(), true);
        Check.due("rolled(0)", x.rolled(0), -2);
        Check.due("rolled(1)", x.rolled(1), -2);
        x.feed(0xC8000000, 0, 0, 0, 0);
        x.end(1);
        Check.due("on()", x.on(), false);
        x.feed(0xFFFFFFFF, -1, -1, -1, -1);
        Check.due("game()", x.game(), -1);
        Check.due("fault(1)", x.fault(1), 0);
    }

    // ---- promise 3

    private static void firstBytesAlone() {
        Check.promise(3, "The tape has its first n bytes alone: true");
        int[] sizes = {0, 1, 19, 20, 700};
        for (int size : sizes) {
            NinepinAlley x = taped(size);
            Check.due("end(its size)", x.end(size), true);
            Check.due("and is as long as it was", x.end(size), true);
            for (int n = size - 1; n >= Math.max(0, size - 3); n--) {
                Check.due("end(" + n + ")", x.end(n), true);
                Check.due("end(" + (n + 1) + ") then", x.end(n + 1), false);
            }
            Check.due("end(0)", x.end(0), true);
            Check.due("end(1) then", x.end(1), false);
            Check.due("feed then", blanks(x), 20);
        }
        NinepinAlley x = new NinepinAlley();
        Check.tape(x, "pins 4;frames 8;");
        x.end(7);
        Check.due("game()", x.game(), 1);
        Check.due("has(0)", x.has(0), 4);
        Check.due("has(1)", x.has(1), 6);
        Check.tape(x, "pins 4;frames 8;");
        x.end(14);
        x.feed(0x373B2020, BLANKS, BLANKS, BLANKS, BLANKS);
        Check.due("game()", x.game(), 2);
        Check.due("has(1)", x.has(1), 7);
    }

    private static void notSoMany() {
        Check.promise(3, "false, doing nothing, if it has not so many, or n is below 0");
        int[] sizes = {0, 1, 20, 699, 700};
        for (int size : sizes) {
            int[] never = {size + 1, size + 2, 701, MAX, -1, -2, -size - 1, MIN};
            for (int n : never) {
                NinepinAlley x = taped(size);
                Check.due("end(" + n + ") of " + size, x.end(n), false);
                Check.due("as long as it was", x.end(size), true);
                Check.due("and no longer", x.end(size + 1), false);
            }
        }
        State.stays("end(27) of 26", Made::torn, x -> Check.due("end", x.end(27), false));
        State.stays("end(-1)", Made::torn, x -> Check.due("end", x.end(-1), false));
        State.stays("end(701)", Made::fullTape, x -> Check.due("end", x.end(701), false));
        State.stays("end(700)", Made::fullTape, x -> Check.due("end", x.end(700), true));
        State.stays("end(26)", Made::halfway, x -> Check.due("end", x.end(26), true));
    }

    public static void main(String[] args) {
        anEmptyGame();
        anEmptySheet();
        nothingTornAndNoTotals();
        objectsApart();
        howManyThereAre();
        moreThanFit();
        orderOfBytes();
        firstBytesAlone();
        notSoMany();
        Check.end();
    }
}
