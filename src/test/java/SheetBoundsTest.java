/** Promises 7 to 14 at their bounds: the sheet. */
public final class SheetBoundsTest {
    private static final int NOT_KNOWN = -1000000;
    private static final int MIN = Integer.MIN_VALUE;
    private static final int MAX = Integer.MAX_VALUE;

    private static void sheetIs(NinepinAlley x, int... want) {
        for (int what = 0; what < want.length; what++) {
            Check.due("sheet(" + what + ")", x.sheet(what), want[what]);
        }
    }

    /** An object with a game and some rolls. */
    private static NinepinAlley rolled(String laws, int... rolls) {
        NinepinAlley x = Check.of(laws);
        Check.rolls(x, rolls);
        return x;
    }

    // ---- promise 7

    /** Behind some rolls, with so many pins standing, which rolls can be. */
    private static void canRoll(String laws, int stand, int... rolls) {
        for (int n = -4; n <= 12; n++) {
            boolean can = n == -2 || n >= 0 && n <= stand;
            NinepinAlley x = rolled(laws, rolls);
            Check.due("roll(" + n + ") with " + stand + " standing", x.roll(n), can);
            Check.due("how many rolls", x.sheet(0), rolls.length + (can ? 1 : 0));
            Check.due("what it took", x.rolled(rolls.length), can ? n : -1);
        }
        int[] never = {200, 255, 256, -256, -200, MAX, MIN, MIN + 1, stand - MIN};
        NinepinAlley x = rolled(laws, rolls);
        for (int n : never) {
            Check.due("roll(" + n + ")", x.roll(n), false);
        }
        Check.due("how many rolls", x.sheet(0), rolls.length);
    }

    private static void rollsThatCanBe() {
        Check.promise(7, "a ROLL takes 0 up to as many as stand, or is a FOUL: true; false when it can't be");
        for (int pins = 1; pins <= 9; pins++) {
            canRoll("pins " + pins + ";", pins);
            for (int n = 0; n < pins; n++) {
                canRoll("pins " + pins + ";", pins - n, n);
            }
            // a clean frame ends, and all stand in the next one
            canRoll("pins " + pins + ";", pins, pins);
            canRoll("pins " + pins + "; rolls 3;", pins, -2, -2);
        }
        canRoll("rolls 3;", 9, -2, 0);
        canRoll("rolls 3;", 1, 4, 4);
        canRoll("rolls 3;", 9, 4, 4, 0);
        canRoll("rolls 1;", 9, 4);
    }

    private static void rollsOfFills() {
        Check.promise(7, "FILLS: all PINS stand at first, and again when none does");
        String laws = "pins 5; frames 1; rolls 1; clean 1 earns 3;";
        canRoll(laws, 5, 5);
        canRoll(laws, 5, 5, 0);
        canRoll(laws, 5, 5, -2);
        canRoll(laws, 1, 5, 4);
        canRoll(laws, 5, 5, 5);
        canRoll(laws, 5, 5, 4, 1);
        canRoll(laws, 2, 5, 2, 1);
        canRoll(laws, 5, 5, 5, 5);
        canRoll(laws, 3, 5, 5, 2);
        // fills go on over more rolls than a frame has
        canRoll("pins 5; frames 1; rolls 1; clean 1 earns 3;", 3, 5, 1, 1);
    }

    private static void refusedRolls() {
        Check.promise(7, "false when it can't be, or THE SHEET is WHOLE");
        int[] never = {5, -1, -3, MAX, MIN};
        for (int n : never) {
            State.stays("roll(" + n + ") of an empty sheet", Made::noRolls, x -> Check.due("roll", x.roll(n), false));
            State.stays("roll(" + n + ") halfway", Made::halfway, x -> Check.due("roll", x.roll(n), false));
        }
        State.stays("roll(2) of one pin", () -> Made.with(1), x -> Check.due("roll", x.roll(4), false));
        State.stays("roll(2) of one pin in fills", Made::inFills, x -> Check.due("roll", x.roll(2), false));
        int[] any = {0, 1, 4, -2, -1, 5, MAX, MIN};
        for (int n : any) {
            State.stays("roll(" + n + ") of a whole sheet", Made::torn, x -> Check.due("roll", x.roll(n), false));
        }
        // whole with no fill, with one less and with just as many as are earned
        NinepinAlley x = rolled("frames 1; rolls 1; clean 1 earns 3;", 8);
        Check.due("no fill is earned", x.roll(0), false);
        for (int earned = 0; earned <= 3; earned++) {
            x = rolled("frames 1; rolls 1; clean 1 earns " + earned + ";", 9);
            for (int n = 1; n <= earned; n++) {
                Check.due("fill " + n + " of " + earned, x.roll(0), true);
            }
            Check.due("one more than " + earned, x.roll(0), false);
            Check.due("one more than " + earned, x.roll(-2), false);
        }
    }

    private static void longestAndShortest() {
        Check.promise(7, "A FRAME is over when none stands, or it has as many ROLLS as rolls tells");
        for (int frames = 1; frames <= 8; frames++) {
            for (int rolls = 1; rolls <= 3; rolls++) {
                String laws = "pins 1; frames " + frames + "; rolls " + rolls + ";";
                NinepinAlley x = Check.of(laws);
                for (int i = 0; i < frames * rolls; i++) {
                    sheetIs(x, i, i / rolls, i % rolls, 1, 0, 0);
                    Check.due("roll", x.roll(i % 2 == 0 ? 0 : -2), true);
                }
                sheetIs(x, frames * rolls, -1, 0, 0, 1, 0);
                Check.due("one more", x.roll(0), false);
                x = Check.of(laws);
                for (int i = 0; i < frames; i++) {
                    sheetIs(x, i, i, 0, 1, 0, 0);
                    Check.due("roll", x.roll(1), true);
                }
                sheetIs(x, frames, -1, 0, 0, 1, 0);
                Check.due("one more", x.roll(0), false);
            }
        }
        NinepinAlley x = Check.of("pins 1; frames 8; rolls 3; clean 3 earns 3;");
        for (int i = 0; i < 27; i++) {
            Check.due("roll " + i + " of 27", x.roll(i % 3 == 2 || i > 23 ? 1 : 0), true);
        }
        Check.due("a 28th", x.roll(0), false);
        sheetIs(x, 27, -1, 0, 0, 1, 3);
    }

    // ---- promises 8 and 9

    private static void backAtEveryLength() {
        Check.promise(8, "The last ROLL is taken back: true");
        for (int n = 1; n <= Made.rollsOfWhole(); n++) {
            NinepinAlley x = Made.with(n);
            Check.due("back() of " + n, x.back(), true);
            State.alike("back() of " + n + " is as if it were not rolled", x, Made.with(n - 1));
        }
        NinepinAlley x = Made.whole();
        for (int n = Made.rollsOfWhole(); n > 0; n--) {
            Check.due("back() of " + n, x.back(), true);
        }
        Check.promise(8, "false when there is none");
        Check.due("back() of none", x.back(), false);
        State.alike("all taken back", x, Made.noRolls());
        State.stays("back() of none", Made::noRolls, y -> Check.due("back", y.back(), false));
        State.stays("back() of none, new", Made::fresh, y -> Check.due("back", y.back(), false));
        x = Made.noRolls();
        x.back();
        Check.rolls(x, 1);
        Check.due("a roll behind it", x.sheet(0), 1);
        Check.promise(8, "(Nothing is TORN then.)");
        x = Made.torn();
        Check.due("torn", x.fits(0, true) > 1, true);
        Check.due("back()", x.back(), true);
        Check.rolls(x, -2);
        State.alike("back() and the same roll", x, Made.whole());
        // what the latest calls have found must not outlive the roll
        x = Made.torn();
        x.come(true);
        x.needs(3, true);
        x.fits(0, true);
        x.back();
        State.alike("back() behind looks ahead", x, Made.with(7));
    }

    private static void clearAtEveryLength() {
        Check.promise(9, "THE SHEET is empty, nothing is TORN: how many ROLLS it had");
        for (int n = 0; n <= Made.rollsOfWhole(); n++) {
            NinepinAlley x = Made.with(n);
            Check.due("clear() of " + n, x.clear(), n);
            Check.due("clear() again", x.clear(), 0);
            State.alike("clear() of " + n, x, Made.noRolls());
        }
        State.stays("clear() of none", Made::noRolls, y -> Check.due("clear", y.clear(), 0));
        NinepinAlley x = Made.torn();
        Check.due("clear() of a torn one", x.clear(), 8);
        Check.due("back() then", x.back(), false);
        Check.rolls(x, 1, 3, -2, 1, 4, 3, 1, -2);
        State.alike("clear() and the same rolls", x, Made.whole());
        x = Check.of("pins 1; frames 8; rolls 3; clean 3 earns 3;");
        for (int i = 0; i < 27; i++) {
            x.roll(i % 3 == 2 || i > 23 ? 1 : 0);
        }
        Check.due("clear() of the longest", x.clear(), 27);
        sheetIs(x, 0, 0, 0, 1, 0, 0);
    }

    /** Rolls of none until the sheet is whole. */
    private static void fillUp(NinepinAlley x) {
        for (int n = 0; n < 27 && x.sheet(4) == 0; n++) {
            Check.rolls(x, 0);
        }
        Check.due("whole", x.sheet(4), 1);
    }

    /** What was earned by rolls that are gone is earned no more. */
    private static void otherRollsBehindThem() {
        Check.promise(8, "The last ROLL is taken back, and others come");
        for (int n = 1; n <= Made.rollsOfWhole(); n++) {
            NinepinAlley x = Made.with(n);
            x.back();
            fillUp(x);
            NinepinAlley other = Made.with(n - 1);
            fillUp(other);
            State.alike("zeros behind back() of " + n, x, other);
            x = Made.with(n);
            for (int k = 0; k < n; k++) {
                x.back();
            }
            fillUp(x);
            other = Made.noRolls();
            fillUp(other);
            State.alike("zeros behind " + n + " times back()", x, other);
        }
        Check.promise(9, "THE SHEET is empty, and others come");
        for (int n = 0; n <= Made.rollsOfWhole(); n++) {
            NinepinAlley x = Made.with(n);
            x.clear();
            fillUp(x);
            NinepinAlley other = Made.noRolls();
            fillUp(other);
            Check.due("rolls of a sheet without fills", x.sheet(0), 6);
            State.alike("zeros behind clear() of " + n, x, other);
            x = Made.with(n);
            x.end(0);
            Check.game(x, Made.LAWS);
            fillUp(x);
            Check.due("rolls of a new game's sheet", x.sheet(0), 6);
            Check.due("its fills", x.sheet(5), 0);
        }
    }

    // ---- promise 10

    private static void everySheet() {
        Check.promise(10, "1 the FRAME of the next ROLL (frames: a FILL; NONE when it is WHOLE), 2 how many ROLLS this has");
        int[][] due = {{0, 0, 0, 4, 0, 0}, {1, 0, 1, 3, 0, 0}, {2, 1, 0, 4, 0, 0}, {3, 1, 1, 4, 0, 0}, {4, 2, 0, 4, 0, 0},
            {5, 3, 0, 4, 0, 3}, {6, 3, 1, 1, 0, 3}, {7, 3, 2, 4, 0, 3}, {8, -1, 0, 0, 1, 3}};
        for (int n = 0; n < due.length; n++) {
            sheetIs(Made.with(n), due[n]);
        }
        Check.promise(10, "(3: 0 when it is WHOLE.)");
        sheetIs(rolled("frames 1; rolls 1;", 4), 1, -1, 0, 0, 1, 0);
        sheetIs(rolled("frames 1; rolls 1;", 9), 1, -1, 0, 0, 1, 0);
        Check.promise(10, "NONE for others");
        int[] never = {-1, 6, 7, MAX, MIN};
        for (int what : never) {
            for (int n = 0; n <= Made.rollsOfWhole(); n++) {
                Check.due("sheet(" + what + ")", Made.with(n).sheet(what), -1);
            }
            State.stays("sheet(" + what + ")", Made::torn, x -> Check.due("sheet", x.sheet(what), -1));
        }
    }

    private static void fillsEarned() {
        Check.promise(10, "5 how many FILLS are earned behind the last FRAME (0 while that is not over)");
        for (int earned = 0; earned <= 3; earned++) {
            String laws = "pins 2; frames 1; rolls 2; clean 1 earns " + earned + "; clean 2 earns " + (3 - earned) + ";";
            Check.due("not begun", Check.of(laws).sheet(5), 0);
            Check.due("not over", rolled(laws, 1).sheet(5), 0);
            Check.due("not clean", rolled(laws, 1, 0).sheet(5), 0);
            Check.due("clean by its 1st", rolled(laws, 2).sheet(5), earned);
            Check.due("clean by its 2nd", rolled(laws, 0, 2).sheet(5), 3 - earned);
            Check.due("clean behind a foul", rolled(laws, -2, 2).sheet(5), 3 - earned);
        }
        // an earlier frame earns: as many as the frames behind it leave
        String laws = "pins 2; frames 3; rolls 2; clean 1 earns 3;";
        Check.due("earned, but the last is not begun", rolled(laws, 0, 0, 2).sheet(5), 0);
        Check.due("earned, but the last is not over", rolled(laws, 0, 0, 2, 1).sheet(5), 0);
        Check.due("two of three are in the last frame", rolled(laws, 0, 0, 2, 1, 0).sheet(5), 1);
        Check.due("one of three is in the last frame", rolled(laws, 0, 0, 2, 2).sheet(5), 3);
        Check.due("all three are rolled", rolled(laws, 2, 1, 0, 1, 0).sheet(5), 0);
        Check.due("all three are rolled", rolled(laws, 2, 2, 1, 0).sheet(5), 1);
        laws = "pins 2; frames 3; rolls 1; clean 1 earns 3;";
        Check.due("the first earns one", rolled(laws, 2, 0, 0).sheet(5), 1);
        Check.due("the second earns two", rolled(laws, 2, 2, 0).sheet(5), 2);
        Check.due("the third earns three", rolled(laws, 2, 2, 2).sheet(5), 3);
        Check.due("the first and the third", rolled(laws, 2, 0, 2).sheet(5), 3);
        // the greatest count of all frames, not the last one's
        laws = "pins 2; frames 2; rolls 2; clean 1 earns 3; clean 2 earns 1;";
        Check.due("the first earns 3, two rolls behind it", rolled(laws, 2, 1, 1).sheet(5), 1);
        laws = "pins 2; frames 2; rolls 2; clean 1 earns 3; clean 2 earns 0;";
        NinepinAlley x = rolled(laws, 2, 1, 1);
        sheetIs(x, 3, 2, 0, 2, 0, 1);
        Check.rolls(x, 2);
        sheetIs(x, 4, -1, 0, 0, 1, 1);
        Check.due("what is earned stays when it is rolled", x.sheet(5), 1);
    }

    // ---- promises 11 and 12

    private static void rolledOnes() {
        Check.promise(11, "What ROLL i takes, FOUL for one; NONE when there is none such");
        int[] rolls = {1, 3, -2, 1, 4, 3, 1, -2};
        for (int n = 0; n <= rolls.length; n++) {
            NinepinAlley x = Made.with(n);
            for (int i = 0; i < rolls.length; i++) {
                Check.due("rolled(" + i + ") of " + n, x.rolled(i), i < n ? rolls[i] : -1);
            }
            int[] never = {-1, -2, n, n + 1, 26, 27, 28, MAX, MIN};
            for (int i : never) {
                Check.due("rolled(" + i + ") of " + n, x.rolled(i), i >= 0 && i < n ? rolls[i] : -1);
            }
        }
        State.stays("rolled(-1)", Made::torn, x -> Check.due("rolled", x.rolled(-1), -1));
        State.stays("rolled(8)", Made::torn, x -> Check.due("rolled", x.rolled(8), -1));
        NinepinAlley x = Made.whole();
        x.back();
        Check.due("rolled(7) behind back()", x.rolled(7), -1);
        x.clear();
        Check.due("rolled(0) behind clear()", x.rolled(0), -1);
    }

    private static void frameIs(NinepinAlley x, int f, int... want) {
        for (int what = 0; what < 4; what++) {
            Check.due("frame(" + f + ", " + what + ")", x.frame(f, what), want.length == 0 ? -1 : want[what]);
        }
        int[] never = {-1, 4, 5, MAX, MIN};
        for (int what : never) {
            Check.due("frame(" + f + ", " + what + ")", x.frame(f, what), -1);
        }
    }

    private static void frames() {
        Check.promise(12, "Of a FRAME that has a ROLL; NONE when there is none such, or for others");
        int[][][] due = {{}, {{1, 1, 0, 0}}, {{4, 2, 2, 0}}, {{4, 2, 2, 0}, {0, 1, 0, 1}}, {{4, 2, 2, 0}, {1, 2, 0, 1}},
            {{4, 2, 2, 0}, {1, 2, 0, 1}, {4, 1, 1, 0}}};
        for (int n = 0; n <= Made.rollsOfWhole(); n++) {
            NinepinAlley x = Made.with(n);
            int[][] all = due[Math.min(n, due.length - 1)];
            for (int f = 0; f < 3; f++) {
                frameIs(x, f, f < all.length ? all[f] : new int[0]);
            }
            // the fills are no frame, and no other number is one
            int[] never = {-1, 3, 4, 7, 8, 9, MAX, MIN};
            for (int f : never) {
                frameIs(x, f);
            }
        }
        State.stays("frame(3, 0)", Made::torn, x -> Check.due("frame", x.frame(3, 0), -1));
        State.stays("frame(0, 4)", Made::torn, x -> Check.due("frame", x.frame(0, 4), -1));
        Check.promise(12, "2 by which ROLL it is CLEAN (0: it is not), 3 its FOULS");
        for (int k = 1; k <= 3; k++) {
            for (int fouls = 0; fouls < k; fouls++) {
                NinepinAlley x = Check.of("pins 3; frames 1; rolls 3;");
                for (int i = 1; i < k; i++) {
                    x.roll(i <= fouls ? -2 : 0);
                }
                if (k > 1) {
                    frameIs(x, 0, 0, k - 1, 0, fouls);
                }
                x.roll(3);
                frameIs(x, 0, 3, k, k, fouls);
            }
        }
        frameIs(rolled("pins 3; frames 1; rolls 3;", -2, -2, -2), 0, 0, 3, 0, 3);
        frameIs(rolled("pins 3; frames 1; rolls 3;", 1, 1, 0), 0, 2, 3, 0, 0);
        frameIs(rolled("pins 3; frames 1; rolls 3;", 1, 1, 1), 0, 3, 3, 3, 0);
        frameIs(rolled("pins 3; frames 8; rolls 1;", 0, 0, 0, 0, 0, 0, 0, 2), 7, 2, 1, 0, 0);
        frameIs(rolled("pins 3; frames 8; rolls 1;", 0, 0, 0, 0, 0, 0, 0), 7);
    }

    // ---- promises 13 and 14

    private static void pointsAre(NinepinAlley x, int... want) {
        for (int f = 0; f < want.length; f++) {
            Check.due("points(" + f + ")", x.points(f), want[f]);
        }
        int[] never = {-1, want.length, want.length + 1, 8, 9, MAX, MIN};
        for (int f : never) {
            Check.due("points(" + f + ")", x.points(f), NOT_KNOWN);
        }
    }

    private static void pointsAtEveryLength() {
        Check.promise(13, "if it is over and all that it earns has been rolled; -10 to the 6 otherwise");
        int no = NOT_KNOWN;
        // frame 0: 4, worth 3, earns a foul; frame 1: 1, worth -1, less 2; frame 2: 4, worth 3, earns 3 + 1 + 0
        int[][] due = {{no, no, no}, {no, no, no}, {no, no, no}, {7, no, no}, {7, -2, no}, {7, -2, no}, {7, -2, no},
            {7, -2, no}, {7, -2, 11}};
        for (int n = 0; n < due.length; n++) {
            pointsAre(Made.with(n), due[n]);
        }
        for (int earned = 0; earned <= 3; earned++) {
            NinepinAlley x = rolled("pins 5; frames 2; rolls 2; clean 1 earns " + earned + "; clean 2 earns 1;", 5);
            for (int n = 0; n < earned; n++) {
                Check.due(n + " of " + earned + " are rolled", x.points(0), NOT_KNOWN);
                Check.due("roll", x.roll(n == 1 ? -2 : 2 - n / 2), true);
            }
            int[] sums = {0, 2, 2, 3};
            Check.due("all " + earned + " are rolled", x.points(0), 5 + sums[earned]);
        }
        Check.promise(13, "A CLEAN FRAME earns, as many as clean k earns tells: no other frame does");
        String laws = "pins 4; frames 3; rolls 3; clean 1 earns 1; clean 2 earns 2; clean 3 earns 3;";
        int[][] rolls = {{4}, {3, 1}, {-2, 4}, {2, 1, 1}, {0, 0, 4}, {2, 1, 0}, {-2, -2, -2}};
        int[] earned = {1, 2, 2, 3, 3, 0, 0};
        for (int i = 0; i < rolls.length; i++) {
            NinepinAlley x = rolled(laws, rolls[i]);
            int down = x.frame(0, 0);
            for (int n = 0; n < earned[i]; n++) {
                Check.due(n + " of " + earned[i] + " are rolled", x.points(0), NOT_KNOWN);
                Check.rolls(x, 1);
            }
            Check.due("all " + earned[i] + " are rolled", x.points(0), down + earned[i]);
            Check.rolls(x, 1);
            Check.due("and one more", x.points(0), down + earned[i]);
        }
        State.stays("points(3)", Made::torn, x -> Check.due("points", x.points(3), NOT_KNOWN));
        State.stays("points(-1)", Made::torn, x -> Check.due("points", x.points(-1), NOT_KNOWN));
    }

    private static void extremes() {
        Check.promise(13, "less foul for each FOUL of it");
        for (int cost = 0; cost <= 10; cost += 5) {
            String laws = "pins 9; frames 1; rolls 3; foul " + cost + ";";
            Check.due("no foul", rolled(laws, 0, 0, 0).points(0), 0);
            Check.due("one foul", rolled(laws, 0, -2, 0).points(0), -cost);
            Check.due("two fouls", rolled(laws, -2, -2, 9).points(0), 9 - 2 * cost);
            Check.due("three fouls", rolled(laws, -2, -2, -2).points(0), -3 * cost);
        }
        NinepinAlley x = rolled("pins 9; frames 1; rolls 1; clean 1 earns 3; foul 10;", 9, -2, -2, -2);
        Check.due("fouls of fills are no frame's", x.points(0), 9);
        x = rolled("pins 9; frames 2; rolls 1; clean 1 earns 1; foul 10;", 9, -2);
        Check.due("a foul that is earned takes none", x.points(0), 9);
        Check.due("and costs its own frame", x.points(1), -10);
        x = Check.of("frames 8; rolls 3; foul 10; worth 0-20 when all;");
        for (int i = 0; i < 24; i++) {
            Check.rolls(x, -2);
        }
        Check.due("the least points of all", x.points(7), -50);
        Check.due("the least total of all", x.total(), -400);
        x = Check.of("frames 8; rolls 1; clean 1 earns 3; worth 20 when all;");
        for (int i = 0; i < 11; i++) {
            Check.rolls(x, 9);
        }
        Check.due("the most points of all", x.points(0), 56);
        Check.due("the most points of all", x.points(7), 56);
        Check.due("the most total of all", x.total(), 448);
    }

    private static void totals() {
        Check.promise(14, "TOTAL of THE SHEET, if it is WHOLE; -10 to the 6 otherwise");
        for (int n = 0; n < Made.rollsOfWhole(); n++) {
            Check.due("total() of " + n, Made.with(n).total(), NOT_KNOWN);
        }
        NinepinAlley x = Made.whole();
        Check.due("total()", x.total(), 7 - 2 + 11);
        x.tear(0, true);
        Check.due("total() of a torn one", x.total(), 16);
        x.back();
        Check.due("total() behind back()", x.total(), NOT_KNOWN);
        Check.rolls(x, 2);
        Check.due("total()", x.total(), 18);
        x.clear();
        Check.due("total() behind clear()", x.total(), NOT_KNOWN);
        Check.due("total() of one roll", rolled("frames 1; rolls 1;", 0).total(), 0);
        State.stays("total() of no whole sheet", Made::halfway, y -> Check.due("total", y.total(), NOT_KNOWN));
    }

    public static void main(String[] args) {
        rollsThatCanBe();
        rollsOfFills();
        refusedRolls();
        longestAndShortest();
        backAtEveryLength();
        clearAtEveryLength();
        otherRollsBehindThem();
        everySheet();
        fillsEarned();
        rolledOnes();
        frames();
        pointsAtEveryLength();
        extremes();
        totals();
        Check.end();
    }
}
