/** Promises 25 to 28 at their bounds: players. */
public final class PlayersBoundsTest {
    private static final int NOT_KNOWN = -1000000;
    private static final int MIN = Integer.MIN_VALUE;
    private static final int MAX = Integer.MAX_VALUE;
    private static final int[] NEVER = {-1, 6, 7, 255, MAX, MIN};
    private static final String LAWS = "pins 9; frames 1; rolls 1; foul 10;";

    /** One more total for a player: as many as a roll takes, or -10 by a foul. */
    private static int keep(NinepinAlley x, int player, int roll) {
        x.clear();
        Check.rolls(x, roll);
        return x.keep(player);
    }

    private static NinepinAlley kept(String laws, int player, int... rolls) {
        NinepinAlley x = Check.of(laws);
        keepAll(x, player, rolls);
        return x;
    }

    private static void keepAll(NinepinAlley x, int player, int... rolls) {
        int had = x.player(player, 0);
        for (int i = 0; i < rolls.length; i++) {
            Check.due("keep(" + player + ")", keep(x, player, rolls[i]), had + i + 1);
        }
    }

    private static void playerIs(NinepinAlley x, int p, int... want) {
        for (int what = 0; what < want.length; what++) {
            Check.due("player(" + p + ", " + what + ")", x.player(p, what), want[what]);
        }
    }

    // ---- promise 25

    private static void keepRefused() {
        Check.promise(25, "NONE when there is none such");
        for (int p : NEVER) {
            Check.due("keep(" + p + ")", Made.whole().keep(p), -1);
            State.stays("keep(" + p + ")", Made::torn, x -> Check.due("keep", x.keep(p), -1));
        }
        Check.promise(25, "NONE when it is not WHOLE");
        for (int n = 0; n < Made.rollsOfWhole(); n++) {
            for (int p = 0; p < 6; p++) {
                Check.due("keep(" + p + ") of " + n + " rolls", Made.with(n).keep(p), -1);
            }
        }
        State.stays("keep(0), no rolls", Made::noRolls, x -> Check.due("keep", x.keep(0), -1));
        State.stays("keep(0), halfway", Made::halfway, x -> Check.due("keep", x.keep(0), -1));
        State.stays("keep(5), in fills", Made::inFills, x -> Check.due("keep", x.keep(5), -1));
        Check.promise(25, "NONE when there are 10");
        NinepinAlley x = Check.of(LAWS);
        for (int p = 0; p < 6; p++) {
            for (int n = 1; n <= 10; n++) {
                Check.due("keep(" + p + ")", keep(x, p, n % 10), n);
            }
            Check.due("an 11th", x.keep(p), -1);
            Check.due("a 12th", x.keep(p), -1);
            playerIs(x, p, 10, 45, 4, 0, 9);
        }
        State.stays("an 11th", PlayersBoundsTest::withTen, y -> Check.due("keep", y.keep(2), -1));
        State.stays("an 11th of the last", PlayersBoundsTest::withTen, y -> Check.due("keep", y.keep(5), -1));
    }

    private static NinepinAlley withTen() {
        NinepinAlley x = Check.of(LAWS + "handicap mean;");
        keepAll(x, 2, 9, 8, 7, 6, 5, 4, 3, 2, 1, 0);
        keepAll(x, 5, -2, -2, -2, -2, -2, 9, 9, 9, 9, 9);
        keepAll(x, 3, 1);
        x.clear();
        Check.rolls(x, 7);
        return x;
    }

    private static void keepTakes() {
        Check.promise(25, "The TOTAL of THE SHEET goes to a PLAYER: how many that one has");
        NinepinAlley x = Made.torn();
        Check.due("keep(4)", x.keep(4), 1);
        Check.due("keep(4) of the same sheet", x.keep(4), 2);
        Check.due("keep(0) has two already", x.keep(0), 3);
        playerIs(x, 4, 2, 32, 16, 0, 16);
        Check.due("the sheet stays", x.total(), 16);
        Check.due("what is torn stays", x.fits(0, true), Made.torn().fits(0, true));
        Check.due("the tape stays", x.end(26), true);
        for (int p = 0; p < 6; p++) {
            x = Check.of(LAWS);
            Check.due("keep(" + p + ")", keep(x, p, 4), 1);
            for (int q = 0; q < 6; q++) {
                Check.due("player(" + q + ", 0)", x.player(q, 0), p == q ? 1 : 0);
                Check.due("player(" + q + ", 1)", x.player(q, 1), p == q ? 4 : 0);
            }
        }
    }

    // ---- promise 26

    private static void playerRefused() {
        Check.promise(26, "-10 to the 6 when there is none such, or for others");
        NinepinAlley x = Made.torn();
        for (int p : NEVER) {
            for (int what = -1; what <= 6; what++) {
                Check.due("player(" + p + ", " + what + ")", x.player(p, what), NOT_KNOWN);
            }
            State.stays("player(" + p + ", 3)", Made::torn, y -> Check.due("player", y.player(p, 3), NOT_KNOWN));
            for (int own = 0; own < 6; own++) {
                Check.due("player(" + own + ", " + p + ")", x.player(own, p), NOT_KNOWN);
            }
            State.stays("player(0, " + p + ")", Made::torn, y -> Check.due("player", y.player(0, p), NOT_KNOWN));
        }
    }

    private static void sumsAndMeans() {
        Check.promise(26, "MEAN: their sum through how many, the greatest whole number not above (0 without)");
        playerIs(Check.of(LAWS), 0, 0, 0, 0, 0, 0, 0);
        playerIs(kept(LAWS, 0, 0), 0, 1, 0, 0, 0, 0);
        playerIs(kept(LAWS, 1, 3, 4), 1, 2, 7, 3, 0, 4);
        playerIs(kept(LAWS, 1, 3, 5), 1, 2, 8, 4, 0, 5);
        playerIs(kept(LAWS, 2, 9, 9, 8), 2, 3, 26, 8, 0, 9);
        playerIs(kept(LAWS, 2, 9, 9, 9), 2, 3, 27, 9, 0, 9);
        playerIs(kept(LAWS, 3, -2), 3, 1, -10, -10, 0, -10);
        playerIs(kept(LAWS, 3, -2, 9), 3, 2, -1, -1, 0, 9);
        playerIs(kept(LAWS, 3, -2, 8), 3, 2, -2, -1, 0, 8);
        playerIs(kept(LAWS, 3, -2, 7), 3, 2, -3, -2, 0, 7);
        playerIs(kept(LAWS, 4, -2, 5, 4), 4, 3, -1, -1, 0, 5);
        playerIs(kept(LAWS, 4, -2, 5, 5), 4, 3, 0, 0, 0, 5);
        playerIs(kept(LAWS, 4, -2, 6, 5), 4, 3, 1, 0, 0, 6);
        Check.promise(26, "4 the greatest of them (0 without)");
        playerIs(kept(LAWS, 5, -2, -2), 5, 2, -20, -10, 0, -10);
        playerIs(kept(LAWS, 5, 2, 7, 3), 5, 3, 12, 4, 0, 7);
        playerIs(kept(LAWS, 5, 0, -2, 0), 5, 3, -10, -4, 0, 0);
        playerIs(kept(LAWS, 5, 0, 0, 0, 0, 0, 0, 0, 0, 0, 9), 5, 10, 9, 0, 0, 9);
        Check.promise(26, "TOTALS of the greatest and the least sheets");
        NinepinAlley x = Check.of("frames 8; rolls 1; clean 1 earns 3; worth 20 when all; handicap mean - 400;");
        for (int i = 0; i < 11; i++) {
            x.roll(9);
        }
        for (int n = 1; n <= 10; n++) {
            Check.due("keep(0)", x.keep(0), n);
        }
        playerIs(x, 0, 10, 4480, 448, 48, 448);
        x = Check.of("frames 8; rolls 3; foul 10; worth 0-20 when all; handicap 0-mean-350;");
        for (int i = 0; i < 24; i++) {
            x.roll(-2);
        }
        for (int n = 1; n <= 10; n++) {
            Check.due("keep(0)", x.keep(0), n);
        }
        playerIs(x, 0, 10, -4000, -400, 50, -400);
    }

    private static void handicaps() {
        Check.promise(26, "HANDICAP: its SUM, 0 .. 99 (below is 0, above 99)");
        int[] some = {0, 1, 2, 97, 98, 99, 100, 101, 9999};
        for (int n : some) {
            NinepinAlley x = Check.of("handicap " + n + ";");
            for (int p = 0; p < 6; p++) {
                Check.due("handicap " + n, x.player(p, 3), Math.min(n, 99));
            }
            Check.due("handicap 0-" + n, Check.of("handicap 0-" + n + ";").player(0, 3), 0);
        }
        Check.due("handicap 9999*9999", Check.of("handicap 9999*9999;").player(0, 3), 99);
        Check.due("handicap 0-9999*9999", Check.of("handicap 0-9999*9999;").player(0, 3), 0);
        Check.due("1000000 at most, then less", Check.of("handicap 9999*9999-9999*100-60;").player(0, 3), 40);
        Check.promise(26, "mean: MEAN, games: how many; all else 0");
        for (int games = 0; games <= 10; games++) {
            NinepinAlley x = Check.of(LAWS + "handicap games;");
            for (int n = 0; n < games; n++) {
                keep(x, 0, 7);
            }
            Check.due("games", x.player(0, 3), games);
            Check.due("games of another", x.player(1, 3), 0);
        }
        playerIs(kept(LAWS + "handicap mean;", 0, 7, 8), 0, 2, 15, 7, 7, 8);
        playerIs(kept(LAWS + "handicap mean;", 0, -2, 7), 0, 2, -3, -2, 0, 7);
        playerIs(kept(LAWS + "handicap 0-mean;", 0, -2, 7), 0, 2, -3, -2, 2, 7);
        playerIs(kept(LAWS + "handicap 10*games+mean;", 0, 5, 7), 0, 2, 12, 6, 26, 7);
        String[] zeros = {"frame", "down", "used", "fouls"};
        for (String zero : zeros) {
            NinepinAlley x = kept(LAWS + "handicap 40 + " + zero + ";", 0, 5, -2, 9);
            Check.due(zero + " is 0", x.player(0, 3), 40);
            x = kept(LAWS + "handicap 40 / " + zero + ";", 0, 5, -2, 9);
            Check.due(zero + " is 0", x.player(0, 3), 0);
        }
        Check.promise(26, "handicap SUM (0 without)");
        playerIs(kept(LAWS + "worth 5 when all;", 0, 5), 0, 1, 10, 10, 0, 10);
    }

    // ---- promises 27 and 28

    private static void meetRefused() {
        Check.promise(27, "NONE when there are none such (unlike ones)");
        NinepinAlley x = Made.torn();
        for (int p : NEVER) {
            for (int q = 0; q < 6; q++) {
                Check.due("meet(" + p + ", " + q + ")", x.meet(p, q), -1);
                Check.due("meet(" + q + ", " + p + ")", x.meet(q, p), -1);
            }
            Check.due("meet(" + p + ", " + p + ")", x.meet(p, p), -1);
            State.stays("meet(" + p + ", 0)", Made::torn, y -> Check.due("meet", y.meet(p, 0), -1));
            State.stays("meet(0, " + p + ")", Made::torn, y -> Check.due("meet", y.meet(0, p), -1));
            Check.promise(28, "NONE when there is none such");
            Check.due("place(" + p + ")", x.place(p), -1);
            State.stays("place(" + p + ")", Made::torn, y -> Check.due("place", y.place(p), -1));
            Check.promise(27, "NONE when there are none such (unlike ones)");
        }
        for (int p = 0; p < 6; p++) {
            Check.due("meet(" + p + ", " + p + ")", x.meet(p, p), -1);
            for (int q = 0; q < 6; q++) {
                Check.due("meet of unlike ones", Made.fresh().meet(p, q), p == q ? -1 : 0);
            }
        }
        State.stays("meet(1, 1)", Made::torn, y -> Check.due("meet", y.meet(1, 1), -1));
    }

    private static void meetIs(NinepinAlley x, int first, int second, int want, int other) {
        Check.due("meet(" + first + ", " + second + ")", x.meet(first, second), want);
        Check.due("meet(" + second + ", " + first + ")", x.meet(second, first), other);
    }

    private static void meetings() {
        Check.promise(27, "in as many games as both have, first with first and so on");
        NinepinAlley x = Check.of(LAWS);
        meetIs(x, 0, 5, 0, 0);
        keepAll(x, 0, 9);
        meetIs(x, 0, 5, 0, 0);
        keepAll(x, 5, 8);
        meetIs(x, 0, 5, 2, 0);
        keepAll(x, 5, 9);
        meetIs(x, 0, 5, 2, 0);
        keepAll(x, 0, 8);
        meetIs(x, 0, 5, 2, 2);
        keepAll(x, 0, 9, 9, 9, 9, 9, 9, 9, 9);
        meetIs(x, 0, 5, 2, 2);
        keepAll(x, 5, 0, 0, 0, 0, 0, 0, 0, 0);
        meetIs(x, 0, 5, 18, 2);
        Check.promise(27, "2 to the one with more, 1 to each of two with as many");
        int[] some = {-2, 0, 1, 8, 9};
        for (int a : some) {
            for (int b : some) {
                x = Check.of(LAWS);
                keepAll(x, 2, a);
                keepAll(x, 3, b);
                int more = Integer.compare(a, b);
                meetIs(x, 2, 3, 1 + more, 1 - more);
            }
        }
        x = Check.of(LAWS);
        keepAll(x, 1, 5, 5, 5, 5, 5, 5, 5, 5, 5, 5);
        keepAll(x, 4, 5, 5, 5, 5, 5, 5, 5, 5, 5, 5);
        meetIs(x, 1, 4, 10, 10);
    }

    private static void meetingsWithHandicaps() {
        Check.promise(27, "TOTALS with the HANDICAP of now put to each");
        // 3 games of 5 and 1 of 8: handicap 2 against 0 for so many games
        NinepinAlley x = Check.of(LAWS + "handicap games - 1;");
        keepAll(x, 0, 5);
        keepAll(x, 1, 7);
        meetIs(x, 0, 1, 0, 2);
        keepAll(x, 0, 0);
        meetIs(x, 0, 1, 0, 2);
        keepAll(x, 0, 0);
        meetIs(x, 0, 1, 1, 1);
        keepAll(x, 0, 0);
        meetIs(x, 0, 1, 2, 0);
        keepAll(x, 1, 0);
        Check.promise(27, "with both HANDICAPS: 3 and 1");
        meetIs(x, 0, 1, 3, 1);
        Check.promise(27, "a HANDICAP of 99 at most and 0 at least in meetings too");
        x = Check.of(LAWS + "handicap 40*mean;");
        keepAll(x, 0, 9);
        keepAll(x, 1, 8);
        meetIs(x, 0, 1, 2, 0);
        keepAll(x, 1, -2);
        // mean -1, handicap 0: 9 + 99 and 8
        meetIs(x, 0, 1, 2, 0);
        x = Check.of(LAWS + "handicap 100*(games-1);");
        keepAll(x, 0, 9, 0);
        keepAll(x, 1, 8, 0, 0);
        meetIs(x, 0, 1, 3, 1);
    }

    private static void allMeetings() {
        Check.promise(26, "5 all by MEETINGS with all others");
        NinepinAlley x = Check.of(LAWS);
        int[] rolls = {4, 7, 4, 0, 9};
        for (int p = 0; p < rolls.length; p++) {
            keepAll(x, p, rolls[p]);
        }
        int[] all = {3, 6, 3, 0, 8, 0};
        int[] places = {2, 1, 2, 4, 0, 4};
        for (int p = 0; p < 6; p++) {
            Check.promise(26, "5 all by MEETINGS with all others");
            Check.due("player(" + p + ", 5)", x.player(p, 5), all[p]);
            Check.promise(28, "PLACE: how many PLAYERS have more by all MEETINGS with all others together");
            Check.due("place(" + p + ")", x.place(p), places[p]);
        }
        Check.promise(28, "all have as many: 0, and the last of unlike ones: 5");
        for (int p = 0; p < 6; p++) {
            Check.due("place(" + p + ") of new ones", Made.fresh().place(p), 0);
        }
        x = Check.of(LAWS);
        for (int p = 0; p < 6; p++) {
            keepAll(x, p, 6);
        }
        for (int p = 0; p < 6; p++) {
            Check.due("player(" + p + ", 5) of like ones", x.player(p, 5), 5);
            Check.due("place(" + p + ") of like ones", x.place(p), 0);
        }
        x = Check.of(LAWS);
        for (int p = 0; p < 6; p++) {
            keepAll(x, p, p);
        }
        for (int p = 0; p < 6; p++) {
            Check.due("player(" + p + ", 5) of unlike ones", x.player(p, 5), 2 * p);
            Check.due("place(" + p + ") of unlike ones", x.place(p), 5 - p);
        }
        // games, not totals, count: one of few games has less
        x = Check.of(LAWS);
        keepAll(x, 0, 9);
        keepAll(x, 1, 8, 8, 8);
        keepAll(x, 2, 7, 7, 7);
        Check.due("player(0, 5)", x.player(0, 5), 4);
        Check.due("player(1, 5)", x.player(1, 5), 6);
        Check.due("place(0)", x.place(0), 1);
        Check.due("place(1)", x.place(1), 0);
        Check.due("place(2)", x.place(2), 2);
        Check.promise(28, "with the HANDICAP of now, though nothing was asked before");
        for (int p = 0; p < 3; p++) {
            x = Check.of(LAWS + "handicap 9 - mean;");
            keep(x, 0, 9);
            keep(x, 1, 1);
            keep(x, 2, 1);
            keep(x, 2, 9);
            // 9 and 1 + 8 are as many, 1 + 4 is less
            int[] due = {0, 0, 2};
            Check.due("place(" + p + ")", x.place(p), due[p]);
            keep(x, 1, 9);
            // 9, then 1 + 4 and 9 + 4, then 1 + 4 and 9 + 4: the first has 4, the others 2
            int[] then = {0, 1, 1};
            Check.due("place(" + p + ") then", x.place(p), then[p]);
        }
        State.stays("meet, place, player", Made::torn, y -> {
            y.meet(0, 1);
            y.place(1);
            y.player(0, 5);
        });
    }

    public static void main(String[] args) {
        keepRefused();
        keepTakes();
        playerRefused();
        sumsAndMeans();
        handicaps();
        meetRefused();
        meetings();
        meetingsWithHandicaps();
        allMeetings();
        Check.end();
    }
}
