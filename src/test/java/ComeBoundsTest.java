import java.math.BigInteger;
import java.util.Arrays;
import java.util.List;
import java.util.function.Consumer;
import java.util.function.Supplier;
import java.util.function.ToLongFunction;

/** Promises 15 to 17 at their bounds: what is to come. */
public final class ComeBoundsTest {
    private static final int MIN = Integer.MIN_VALUE;
    private static final int MAX = Integer.MAX_VALUE;
    private static final long MOST = 1000000000000000000L;

    private static NinepinAlley rolled(String laws, int... rolls) {
        NinepinAlley x = Check.of(laws);
        Check.rolls(x, rolls);
        return x;
    }

    /** Each number of ways there is, from the least total on; all others are 0. */
    private static void waysAre(NinepinAlley x, int least, long... ways) {
        int most = least + ways.length - 1;
        Check.due("come(false)", x.come(false), least);
        Check.due("come(true)", x.come(true), most);
        long more = 0;
        for (int n = most; n >= least; n--) {
            more += ways[n - least];
            Check.due("ways(" + n + ", false)", x.ways(n, false), ways[n - least]);
            Check.due("ways(" + n + ", true)", x.ways(n, true), more);
        }
        int[] below = {least - 1, least - 2, -401, -402, -1000000, MIN, MIN + 1};
        for (int n : below) {
            Check.due("ways(" + n + ", false)", x.ways(n, false), 0);
            Check.due("ways(" + n + ", true)", x.ways(n, true), more);
        }
        int[] above = {most + 1, most + 2, 449, 450, 451, 1000000, MAX, MAX - 1};
        for (int n : above) {
            Check.due("ways(" + n + ", false)", x.ways(n, false), 0);
            Check.due("ways(" + n + ", true)", x.ways(n, true), 0);
        }
    }

    // ---- promises 15 and 16

    private static void smallestGames() {
        Check.promise(15, "The least or the greatest TOTAL TO COME");
        waysAre(Check.of("pins 1; frames 1; rolls 1;"), 0, 1, 1);
        waysAre(Check.of("pins 9; frames 1; rolls 1;"), 0, 1, 1, 1, 1, 1, 1, 1, 1, 1, 1);
        waysAre(Check.of("pins 2; frames 1; rolls 2;"), 0, 1, 2, 3);
        waysAre(Check.of("pins 1; frames 1; rolls 3;"), 0, 1, 3);
        // 0; 1 and a fill of 0 or 1
        waysAre(Check.of("pins 1; frames 1; rolls 1; clean 1 earns 1;"), 0, 1, 1, 1);
        waysAre(Check.of("pins 1; frames 1; rolls 1; clean 1 earns 3;"), 0, 1, 1, 3, 3, 1);
        // all unlike rolls count, though the totals are alike
        waysAre(Check.of("pins 9; frames 1; rolls 1; worth 9 - down when all;"), 9, 10);
        Check.promise(15, "TO COME: of a WHOLE sheet it is the TOTAL");
        waysAre(rolled("pins 1; frames 1; rolls 1;", 0), 0, 1);
        waysAre(rolled("pins 1; frames 1; rolls 1;", 1), 1, 1);
        waysAre(rolled("pins 1; frames 1; rolls 1; foul 10;", -2), -10, 1);
        waysAre(Made.whole(), 16, 1);
        waysAre(Made.torn(), 16, 1);
        Check.promise(15, "TO COME: without FOULS behind what stands there");
        waysAre(Check.of("pins 1; frames 1; rolls 1; foul 10;"), 0, 1, 1);
        waysAre(rolled("pins 1; frames 1; rolls 2; foul 10;", -2), -10, 1, 1);
        waysAre(rolled("pins 1; frames 1; rolls 2; foul 10; worth 5 when fouls > 1;", -2), -10, 1, 1);
        waysAre(rolled("pins 1; frames 1; rolls 1; clean 1 earns 2;", 1, -2), 1, 1, 1);
    }

    private static void atEveryLength() {
        Check.promise(16, "all ways to go on with THE SHEET up to a WHOLE one");
        // the last fill, then the last two and so on, by hand
        waysAre(Made.with(7), 16, 1, 1, 1, 1, 1);
        // one pin stands: 0 leaves it, so 0 or 1; 1 brings all four back
        waysAre(Made.with(6), 15, 1, 2, 1, 1, 1, 1);
        NinepinAlley x = Made.with(5);
        Check.due("fills: 0 .. 4, then what stands", x.ways(-1000000, true), waysOfFills(3, 4));
        Check.due("come(false)", x.come(false), 12);
        Check.due("come(true)", x.come(true), 24);
        x = Check.of(Made.LAWS);
        Check.due("come(true) of all clean by their first", x.come(true), 3 * (4 + 3 + 12));
        Check.due("ways to it", x.ways(57, false), 1);
        Check.due("ways to more", x.ways(58, true), 0);
        Check.due("come(false)", x.come(false), 0);
        Check.due("ways to it", x.ways(0, false), 1);
        State.stays("come, ways and needs", Made::halfway, y -> {
            y.come(false);
            y.come(true);
            y.ways(3, false);
            y.ways(3, true);
            y.needs(3, false);
            y.needs(3, true);
        });
        State.stays("come, ways and needs of a torn sheet", Made::torn, y -> {
            y.fits(0, true);
            y.come(false);
            y.must(0, 0, true);
            y.ways(3, true);
            y.needs(3, true);
        });
    }

    /** How many unlike fills there are of four pins. */
    private static long waysOfFills(int fills, int stand) {
        if (fills == 0) {
            return 1;
        }
        long sum = 0;
        for (int n = 0; n <= stand; n++) {
            sum += waysOfFills(fills - 1, n == stand ? 4 : stand - n);
        }
        return sum;
    }

    private static BigInteger[] times(BigInteger[] a, BigInteger[] b) {
        BigInteger[] all = new BigInteger[a.length + b.length - 1];
        Arrays.fill(all, BigInteger.ZERO);
        for (int i = 0; i < a.length; i++) {
            for (int k = 0; k < b.length; k++) {
                all[i + k] = all[i + k].add(a[i].multiply(b[k]));
            }
        }
        return all;
    }

    /** Ways of frames of three rolls that earn nothing: d pins fall in (d + 1)(d + 2) / 2 ways. */
    private static BigInteger[] exactWays(int pins, int frames) {
        BigInteger[] frame = new BigInteger[pins + 1];
        for (int d = 0; d <= pins; d++) {
            frame[d] = BigInteger.valueOf((d + 1) * (d + 2) / 2);
        }
        BigInteger[] all = {BigInteger.ONE};
        for (int f = 0; f < frames; f++) {
            all = times(all, frame);
        }
        return all;
    }

    private static void countsAtMost() {
        Check.promise(16, "10 to the 18 at most");
        BigInteger cap = BigInteger.valueOf(MOST);
        for (int pins = 7; pins <= 9; pins++) {
            NinepinAlley x = Check.of("pins " + pins + "; frames 8; rolls 3;");
            BigInteger[] ways = exactWays(pins, 8);
            BigInteger more = BigInteger.ZERO;
            for (int n = ways.length - 1; n >= 0; n--) {
                more = more.add(ways[n]);
                Check.due("ways(" + n + ", false) of " + pins, x.ways(n, false), ways[n].min(cap).longValueExact());
                Check.due("ways(" + n + ", true) of " + pins, x.ways(n, true), more.min(cap).longValueExact());
            }
        }
        long eight = BigInteger.valueOf(165).pow(8).longValueExact();
        Check.due("165 to the 8 is below it", eight < MOST, true);
        NinepinAlley x = Check.of("pins 8; frames 8; rolls 3; worth 8 - down when all;");
        Check.due("all of one total, below it", x.ways(64, false), eight);
        Check.due("and more", x.ways(64, true), eight);
        Check.due("and more", x.ways(MIN, true), eight);
        Check.due("and none beside", x.ways(63, false) + x.ways(65, false) + x.ways(65, true), 0);
        x = Check.of("pins 9; frames 8; rolls 3; worth 9 - down when all;");
        Check.due("220 to the 8 of one total", x.ways(72, false), MOST);
        Check.due("and more", x.ways(72, true), MOST);
        Check.due("and none beside", x.ways(71, false) + x.ways(73, false) + x.ways(73, true), 0);
        // one roll less is 55, not 220: below it again
        Check.rolls(x, 0);
        long rest = BigInteger.valueOf(220).pow(7).multiply(BigInteger.valueOf(55)).min(cap).longValueExact();
        Check.due("behind a roll", x.ways(72, false), rest);
        Check.rolls(x, 0);
        rest = BigInteger.valueOf(220).pow(7).multiply(BigInteger.TEN).longValueExact();
        Check.due("behind two rolls", x.ways(72, false), rest);
        Check.rolls(x, 0);
        Check.due("behind three rolls", x.ways(72, false), rest / 10);
        Check.promise(16, "10 to the 18 at most, with fills");
        x = Check.of("pins 9; frames 8; rolls 3; clean 1 earns 3; clean 2 earns 3; clean 3 earns 3;");
        Check.due("all ways", x.ways(MIN, true), MOST);
        Check.due("the greatest total", x.come(true), 8 * 36);
        // the first frame is no other's, so each of its 55 ways to be clean will do
        Check.due("ways to it", x.ways(288, true), 55);
    }

    // ---- promise 17

    /** The needs of each target from one on: can and must. */
    private static void needsAre(NinepinAlley x, int from, int[] can, int[] must) {
        for (int i = 0; i < can.length; i++) {
            Check.due("needs(" + (from + i) + ", false)", x.needs(from + i, false), can[i]);
            Check.due("needs(" + (from + i) + ", true)", x.needs(from + i, true), must[i]);
        }
        int[] below = {from - 1, -401, -1000000, MIN};
        for (int n : below) {
            Check.due("needs(" + n + ", false)", x.needs(n, false), 0);
            Check.due("needs(" + n + ", true)", x.needs(n, true), 0);
        }
        int[] above = {from + can.length, 449, 450, 1000000, MAX};
        for (int n : above) {
            Check.due("needs(" + n + ", false)", x.needs(n, false), -1);
            Check.due("needs(" + n + ", true)", x.needs(n, true), -1);
        }
    }

    private static void needs() {
        Check.promise(17, "the least number that the next ROLL can take with which the TARGET can still come (or must)");
        int[] each = {0, 1, 2, 3, 4, 5, 6, 7, 8, 9};
        needsAre(Check.of("pins 9; frames 1; rolls 1;"), 0, each, each);
        needsAre(Check.of("pins 1; frames 1; rolls 1;"), 0, new int[] {0, 1}, new int[] {0, 1});
        needsAre(Check.of("pins 2; frames 1; rolls 2;"), 0, new int[] {0, 0, 0}, new int[] {0, 1, 2});
        needsAre(rolled("pins 2; frames 1; rolls 2;", 1), 1, new int[] {0, 1}, new int[] {0, 1});
        needsAre(rolled("pins 2; frames 1; rolls 2; foul 3;", -2), -3, new int[] {0, 1, 2}, new int[] {0, 1, 2});
        needsAre(rolled("pins 3; frames 1; rolls 1; clean 1 earns 2;", 3), 3, new int[] {0, 0, 0, 0, 3, 3, 3},
                new int[] {0, 1, 2, 3, -1, -1, -1});
        needsAre(rolled("pins 3; frames 1; rolls 1; clean 1 earns 2;", 3, 2), 5, new int[] {0, 1}, new int[] {0, 1});
        needsAre(rolled("pins 3; frames 1; rolls 1; clean 1 earns 2;", 3, 3), 6, new int[] {0, 1, 2, 3},
                new int[] {0, 1, 2, 3});
        Check.promise(17, "the least number, though more of them would not do");
        NinepinAlley x = Check.of("pins 4; frames 1; rolls 1; worth 10 when down = 1; worth 0 - 10 when down > 2;");
        needsAre(x, -7, new int[] {0, 0, 0, 0, 0, 0, 0, 0, 1, 1, 1, 1, 1, 1, 1, 1, 1, 1, 1},
                new int[] {0, 0, 0, 0, 0, 0, 0, 0, 1, 1, 1, 1, 1, 1, 1, 1, 1, 1, 1});
        // all but 0 are worth as much, so 1 is the least of nine that will do
        x = Check.of("pins 9; frames 1; rolls 1; worth 9 - down when down > 0;");
        Check.due("needs(0, true)", x.needs(0, true), 0);
        for (int target = 1; target <= 9; target++) {
            Check.due("needs(" + target + ", false)", x.needs(target, false), 1);
            Check.due("needs(" + target + ", true)", x.needs(target, true), 1);
        }
        Check.due("needs(10, false)", x.needs(10, false), -1);
        // three are needed to reach 5, and three must bring 3, whatever the last frame does
        x = Check.of("pins 3; frames 2; rolls 1; worth 0 - 3 when frame = 2 and down = 3;");
        Check.due("needs(5, false)", x.needs(5, false), 3);
        Check.due("needs(3, true)", x.needs(3, true), 3);
        Check.due("needs(4, true)", x.needs(4, true), -1);
        Check.promise(17, "NONE when there is no such number, or THE SHEET is WHOLE");
        int[] targets = {MIN, -1000000, -1, 0, 15, 16, 17, MAX};
        for (int target : targets) {
            Check.due("needs(" + target + ", false), whole", Made.whole().needs(target, false), -1);
            Check.due("needs(" + target + ", true), whole", Made.torn().needs(target, true), -1);
        }
    }

    /** What was found ahead must be forgotten with each change of the sheet and of the game. */
    private static void lookedAtAgain() {
        Check.promise(15, "THE SHEET is the one at hand");
        NinepinAlley x = Check.of("pins 3; frames 2; rolls 1;");
        int[] rolls = {2, 3};
        int sum = 0;
        for (int n : rolls) {
            x.come(true);
            x.needs(4, true);
            Check.rolls(x, n);
            sum += n;
            Check.due("come(false) behind roll(" + n + ")", x.come(false), sum);
        }
        Check.due("needs, whole", x.needs(0, false), -1);
        x.back();
        Check.due("needs(3, true) behind back()", x.needs(3, true), 1);
        Check.due("come(true) behind back()", x.come(true), 5);
        x.clear();
        Check.due("come(true) behind clear()", x.come(true), 6);
        Check.due("needs(4, false) behind clear()", x.needs(4, false), 1);
        Check.game(x, "pins 5; frames 2; rolls 1;");
        Check.due("come(true) of another game", x.come(true), 10);
        Check.due("needs(10, false) of another game", x.needs(10, false), 5);
        Check.game(x, "pins 2;?");
        Check.due("come(true) behind a fault", x.come(true), 10);
        Check.tape(x, 1, 4, (7 * ((7 * 11 + 1) % 239) + 4) % 239);
        Check.due("on()", x.on(), true);
        Check.due("come(false) behind on()", x.come(false), 4);
        Check.due("needs(6, true) behind on()", x.needs(6, true), 2);
        Check.tape(x, 1, 4);
        Check.due("on() of none", x.on(), false);
        Check.due("come(false) behind on() of none", x.come(false), 4);
        Check.due("a roll that can't be", x.roll(6), false);
        Check.due("come(true) behind it", x.come(true), 9);
    }

    private static final List<Consumer<NinepinAlley>> CHANGES = List.of(
            x -> x.roll(0), x -> x.roll(-2), x -> x.back(), x -> x.clear(), x -> Check.game(x, "pins 3; frames 2; rolls 1;"),
            x -> Check.game(x, "pins 3; frames 2; rolls 1"), ComeBoundsTest::anotherSheet, x -> x.tear(0, true),
            x -> x.tear(3, true), x -> x.tear(0, false), x -> x.tear(3, false));
    private static final List<ToLongFunction<NinepinAlley>> LOOKS = List.of(
            x -> x.come(false), x -> x.come(true), x -> x.ways(9, false), x -> x.ways(-1000, true), x -> x.needs(12, false),
            x -> x.needs(12, true), x -> x.fits(16, false), x -> x.fits(0, true), x -> x.must(0, 16, false),
            x -> x.must(1, 0, true), x -> x.must(2, 0, true));

    private static void anotherSheet(NinepinAlley x) {
        int[] bytes = {2, 3, 1, 0};
        int c = 11;
        for (int i = 0; i < 3; i++) {
            c = (7 * c + bytes[i]) % 239;
        }
        bytes[3] = c;
        Check.tape(x, bytes);
        Check.due("on()", x.on(), true);
    }

    /** A look, a change and another look: the first one must not be seen by the last. */
    private static void everyLookAgain() {
        List<Supplier<NinepinAlley>> makings = List.of(Made::noRolls, Made::halfway, Made::inFills, Made::whole, Made::torn);
        for (Supplier<NinepinAlley> making : makings) {
            for (Consumer<NinepinAlley> change : CHANGES) {
                for (ToLongFunction<NinepinAlley> last : LOOKS) {
                    NinepinAlley other = making.get();
                    change.accept(other);
                    long want = last.applyAsLong(other);
                    for (ToLongFunction<NinepinAlley> first : LOOKS) {
                        NinepinAlley x = making.get();
                        first.applyAsLong(x);
                        change.accept(x);
                        Check.due("look " + LOOKS.indexOf(last) + " behind change " + CHANGES.indexOf(change)
                                + " behind look " + LOOKS.indexOf(first), last.applyAsLong(x), want);
                    }
                }
            }
        }
    }

    /** The greatest and the least totals that any game has. */
    private static void extremes() {
        Check.promise(15, "the greatest TOTAL of all games, 448");
        NinepinAlley x = Check.of("frames 8; rolls 1; clean 1 earns 3; worth 20 when all;");
        Check.due("come(true)", x.come(true), 448);
        Check.due("come(false)", x.come(false), 160);
        Check.due("ways(448, false)", x.ways(448, false), 1);
        Check.due("ways(448, true)", x.ways(448, true), 1);
        Check.due("ways(449, true)", x.ways(449, true), 0);
        Check.due("needs(448, false)", x.needs(448, false), 9);
        Check.due("needs(449, false)", x.needs(449, false), -1);
        for (int i = 0; i < 11; i++) {
            Check.due("needs(448, false) of roll " + i, x.needs(448, false), 9);
            Check.rolls(x, 9);
        }
        Check.due("come(false), whole", x.come(false), 448);
        Check.due("fits(448, false)", x.fits(448, false), 1);
        for (int f = 0; f <= 8; f++) {
            x.tear(f, true);
        }
        Check.due("fits(448, false), all torn", x.fits(448, false), 1);
        Check.due("fits(449, false), all torn", x.fits(449, false), 0);
        Check.due("must(0, 448, false)", x.must(0, 448, false), 512);
        Check.due("must(7, 448, false)", x.must(7, 448, false), 512);
        Check.promise(15, "the least TOTAL of all games, -400");
        x = Check.of("frames 8; rolls 3; foul 10; worth 0-20 when all;");
        for (int i = 0; i < 24; i++) {
            // fouls so far, at 10 each, and -20 for each of the eight frames
            Check.due("come(false) behind " + i, x.come(false), -10 * i - 160);
            Check.due("ways to it", x.ways(-10 * i - 160, false), 1);
            Check.due("ways to less", x.ways(-10 * i - 161, false), 0);
            Check.due("needs of it", x.needs(-10 * i - 160, true), 0);
            Check.due("needs of one more", x.needs(-10 * i - 159, true), 1);
            Check.rolls(x, -2);
        }
        Check.due("come(true), whole", x.come(true), -400);
        Check.due("ways(-400, false)", x.ways(-400, false), 1);
        Check.due("ways(-400, true)", x.ways(-400, true), 1);
        Check.due("ways(-399, true)", x.ways(-399, true), 0);
        Check.due("fits(-400, false)", x.fits(-400, false), 1);
        Check.due("fits(-401, false)", x.fits(-401, false), 0);
        Check.due("must(7, -400, false)", x.must(7, -400, false), 1);
    }

    public static void main(String[] args) {
        smallestGames();
        atEveryLength();
        countsAtMost();
        needs();
        lookedAtAgain();
        everyLookAgain();
        extremes();
        Check.end();
    }
}
