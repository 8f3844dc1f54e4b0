/** Promises 7 to 14: the sheet. */
public final class SheetTest {
    private static final int NOT_KNOWN = -1000000;

    private static void sheetIs(NinepinAlley x, int... want) {
        for (int i = 0; i < want.length; i++) {
            Check.due("sheet(" + i + ")", x.sheet(i), want[i]);
        }
    }

    private static void rollsThatCanBe() {
        NinepinAlley x = Check.of("pins 5; frames 2; rolls 2;");
        int[] never = {6, -1, -3, 200, Integer.MAX_VALUE, Integer.MIN_VALUE};
        for (int n : never) {
            Check.due("roll(" + n + ")", x.roll(n), false);
        }
        sheetIs(x, 0, 0, 0, 5, 0, 0, -1);
        Check.rolls(x, 3);
        sheetIs(x, 1, 0, 1, 2, 0, 0, -1);
        Check.due("roll(3) of 2", x.roll(3), false);
        Check.rolls(x, -2);
        sheetIs(x, 2, 1, 0, 5, 0, 0);
        Check.rolls(x, 5);
        sheetIs(x, 3, -1, 0, 0, 1, 0);
        Check.due("roll of a whole sheet", x.roll(0), false);
        Check.due("foul of a whole sheet", x.roll(-2), false);
        Check.due("sheet(-1)", x.sheet(-1), -1);
    }

    private static void fills() {
        NinepinAlley x = Check.of("pins 4; frames 1; rolls 2; clean 1 earns 3; clean 2 earns 1; foul 7;");
        Check.rolls(x, 4);
        sheetIs(x, 1, 1, 0, 4, 0, 3);
        Check.rolls(x, 3);
        sheetIs(x, 2, 1, 1, 1, 0, 3);
        Check.due("roll(2) of 1", x.roll(2), false);
        Check.rolls(x, 1);
        sheetIs(x, 3, 1, 2, 4, 0, 3);
        Check.due("points", x.points(0), NOT_KNOWN);
        Check.rolls(x, -2);
        sheetIs(x, 4, -1, 0, 0, 1, 3);
        Check.due("fouls of fills cost nothing", x.points(0), 8);
        Check.due("total", x.total(), 8);
        Check.due("fills are no frame", x.frame(1, 0), -1);
        Check.due("fills are no frame", x.points(1), NOT_KNOWN);
        Check.due("back", x.back(), true);
        Check.rolls(x, 4);
        Check.due("total", x.total(), 12);
        x.clear();
        Check.rolls(x, 1, 3);
        sheetIs(x, 2, 1, 0, 4, 0, 1);
        x.clear();
        Check.rolls(x, 1, 2);
        sheetIs(x, 2, -1, 0, 0, 1, 0);
    }

    /** A frame ahead of the last one can be the one that earns the fills. */
    private static void fillsOfEarlierFrames() {
        NinepinAlley x = Check.of("pins 2; frames 3; rolls 2; clean 1 earns 3; clean 2 earns 0;");
        Check.rolls(x, 0, 0, 2);
        sheetIs(x, 3, 2, 0, 2, 0, 0);
        Check.rolls(x, 1, 1);
        sheetIs(x, 5, 3, 0, 2, 0, 1);
        Check.rolls(x, 1);
        sheetIs(x, 6, -1, 0, 0, 1, 1);
        Check.due("points(1)", x.points(1), 5);
        Check.due("points(2)", x.points(2), 2);
        Check.due("total", x.total(), 7);
        x = Check.of("pins 1; frames 3; rolls 1; clean 1 earns 3;");
        Check.rolls(x, 1, 1, 1, 1, 1, 1);
        Check.due("all clean", x.total(), 12);
        sheetIs(x, 6, -1, 0, 0, 1, 3);
    }

    private static void backAndClear() {
        NinepinAlley x = Check.of("pins 3; frames 2; rolls 2; clean 1 earns 1;");
        Check.due("back of none", x.back(), false);
        Check.rolls(x, 1, -2, 3, 2);
        sheetIs(x, 4, -1, 0, 0, 1, 1);
        int[][] due = {{3, 2, 0, 3, 0, 1}, {2, 1, 0, 3, 0, 0}, {1, 0, 1, 2, 0, 0}, {0, 0, 0, 3, 0, 0}};
        for (int[] want : due) {
            Check.due("back", x.back(), true);
            sheetIs(x, want);
        }
        Check.due("back of none", x.back(), false);
        Check.rolls(x, 2, 1, 0, 0);
        Check.due("whole", x.sheet(4), 1);
        x.tear(0, true);
        Check.due("clear", x.clear(), 4);
        sheetIs(x, 0, 0, 0, 3, 0, 0);
        Check.due("clear again", x.clear(), 0);
        Check.rolls(x, 2, 1, 0, 0);
        Check.due("nothing is torn behind clear", x.fits(0, true), 1);
        x.tear(0, true);
        x.back();
        Check.rolls(x, 0);
        Check.due("nothing is torn behind back", x.fits(0, true), 1);
    }

    private static void rolledAndFrames() {
        NinepinAlley x = Check.of("pins 5; frames 3; rolls 3; foul 2; clean 2 earns 1;");
        Check.rolls(x, -2, 5, 0, 1, -2, 4);
        int[] rolled = {-2, 5, 0, 1, -2, 4, -1};
        for (int i = 0; i < rolled.length; i++) {
            Check.due("rolled(" + i + ")", x.rolled(i), rolled[i]);
        }
        Check.due("rolled(-1)", x.rolled(-1), -1);
        Check.due("rolled(max)", x.rolled(Integer.MAX_VALUE), -1);
        int[][] frames = {{5, 2, 2, 1}, {1, 3, 0, 1}, {4, 1, 0, 0}};
        for (int f = 0; f < 3; f++) {
            for (int what = 0; what < 4; what++) {
                Check.due("frame(" + f + ", " + what + ")", x.frame(f, what), frames[f][what]);
            }
            Check.due("frame(.., 4)", x.frame(f, 4), -1);
            Check.due("frame(.., -1)", x.frame(f, -1), -1);
        }
        Check.due("frame(-1, 0)", x.frame(-1, 0), -1);
        Check.due("frame(3, 0)", x.frame(3, 0), -1);
        Check.due("points(0)", x.points(0), 3);
        Check.due("points(1)", x.points(1), -1);
        Check.due("points(2), not over", x.points(2), NOT_KNOWN);
        Check.due("points(-1)", x.points(-1), NOT_KNOWN);
        Check.due("points(max)", x.points(Integer.MAX_VALUE), NOT_KNOWN);
        Check.due("total, not whole", x.total(), NOT_KNOWN);
        Check.rolls(x, 1, 3);
        Check.due("points(2)", x.points(2), 8);
        Check.due("total", x.total(), 10);
    }

    /** A foul takes none, yet is one of the rolls that are earned. */
    private static void foulsAreEarned() {
        NinepinAlley x = Check.of("pins 5; frames 2; rolls 2; clean 1 earns 2; foul 3;");
        Check.rolls(x, 5);
        Check.due("points(0)", x.points(0), NOT_KNOWN);
        Check.rolls(x, -2);
        Check.due("points(0)", x.points(0), NOT_KNOWN);
        Check.rolls(x, 4);
        Check.due("points(0)", x.points(0), 9);
        Check.due("points(1)", x.points(1), 1);
        Check.due("total", x.total(), 10);
    }

    public static void main(String[] args) {
        rollsThatCanBe();
        fills();
        fillsOfEarlierFrames();
        backAndClear();
        rolledAndFrames();
        foulsAreEarned();
        Check.end();
    }
}
