/** Promises 25 to 28: players. */
public final class PlayersTest {
    private static final int NOT_KNOWN = -1000000;

    private static void keep(NinepinAlley x, int p, int roll, int want) {
        x.clear();
        Check.rolls(x, roll);
        Check.due("keep(" + p + ")", x.keep(p), want);
    }

    private static void playerIs(NinepinAlley x, int p, int... want) {
        for (int what = 0; what < want.length; what++) {
            Check.due("player(" + p + ", " + what + ")", x.player(p, what), want[what]);
        }
    }

    private static void refused() {
        NinepinAlley x = Check.of("pins 5; frames 1; rolls 1;");
        Check.due("keep, not whole", x.keep(0), -1);
        Check.rolls(x, 3);
        int[] never = {-1, 6, Integer.MAX_VALUE, Integer.MIN_VALUE};
        for (int p : never) {
            Check.due("keep(" + p + ")", x.keep(p), -1);
            Check.due("player(" + p + ")", x.player(p, 0), NOT_KNOWN);
            Check.due("meet(" + p + ", 0)", x.meet(p, 0), -1);
            Check.due("meet(0, " + p + ")", x.meet(0, p), -1);
            Check.due("place(" + p + ")", x.place(p), -1);
        }
        Check.due("player(0, -1)", x.player(0, -1), NOT_KNOWN);
        Check.due("player(0, 6)", x.player(0, 6), NOT_KNOWN);
        Check.due("meet(2, 2)", x.meet(2, 2), -1);
        for (int n = 1; n <= 10; n++) {
            Check.due("keep(2)", x.keep(2), n);
        }
        Check.due("an 11th", x.keep(2), -1);
        playerIs(x, 2, 10, 30, 3, 0, 3, 0);
        Check.due("another one", x.keep(5), 1);
    }

    private static void numbers() {
        NinepinAlley x = Check.of("pins 5; frames 1; rolls 1; foul 9; handicap (20 - mean) * games;");
        playerIs(x, 0, 0, 0, 0, 0, 0, 0);
        keep(x, 0, 5, 1);
        playerIs(x, 0, 1, 5, 5, 15, 5, 0);
        keep(x, 0, 2, 2);
        playerIs(x, 0, 2, 7, 3, 34, 5, 0);
        keep(x, 1, -2, 1);
        playerIs(x, 1, 1, -9, -9, 29, -9);
        keep(x, 1, 0, 2);
        // the greatest whole number not above -4.5
        playerIs(x, 1, 2, -9, -5, 50, 0);
        for (int n = 3; n <= 6; n++) {
            keep(x, 1, 0, n);
        }
        playerIs(x, 1, 6, -9, -2, 99, 0);
        x = Check.of("pins 5; frames 1; rolls 1; handicap frame + down + used + fouls + 5 - 3 * games;");
        playerIs(x, 0, 0, 0, 0, 5, 0, 0);
        keep(x, 0, 4, 1);
        keep(x, 0, 4, 2);
        playerIs(x, 0, 2, 8, 4, 0, 4, 0);
        x = Check.of("handicap 7; handicap 98 + 1;");
        playerIs(x, 3, 0, 0, 0, 99, 0, 0);
        x = Check.of("handicap 100;");
        playerIs(x, 3, 0, 0, 0, 99, 0, 0);
    }

    private static void meetings() {
        NinepinAlley x = Check.of("pins 9; frames 1; rolls 1; handicap 8 - mean;");
        keep(x, 0, 9, 1);
        keep(x, 0, 5, 2);
        keep(x, 0, 1, 3);
        keep(x, 1, 9, 1);
        keep(x, 1, 4, 2);
        keep(x, 2, 6, 1);
        // means 5, 6, 6: handicaps 3, 2, 2
        Check.due("meet(0, 1)", x.meet(0, 1), 4);
        Check.due("meet(1, 0)", x.meet(1, 0), 0);
        Check.due("meet(0, 2)", x.meet(0, 2), 2);
        Check.due("meet(2, 0)", x.meet(2, 0), 0);
        Check.due("meet(1, 2)", x.meet(1, 2), 2);
        Check.due("meet(3, 0)", x.meet(3, 0), 0);
        int[] all = {6, 2, 0, 0, 0, 0};
        int[] places = {0, 1, 2, 2, 2, 2};
        for (int p = 0; p < 6; p++) {
            Check.due("player(" + p + ", 5)", x.player(p, 5), all[p]);
            Check.due("place(" + p + ")", x.place(p), places[p]);
        }
        keep(x, 3, 6, 1);
        Check.due("as many", x.meet(2, 3), 1);
        Check.due("as many", x.meet(3, 2), 1);
        // the handicap of now, in games of before too: mean 3, handicap 5
        keep(x, 3, 0, 2);
        Check.due("handicaps of now", x.meet(3, 2), 2);
        Check.due("handicaps of now", x.meet(3, 1), 1);
        Check.due("handicaps of now", x.meet(1, 3), 3);
    }

    public static void main(String[] args) {
        refused();
        numbers();
        meetings();
        Check.end();
    }
}
