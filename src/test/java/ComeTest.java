/** Promises 15 to 17: what is to come. */
public final class ComeTest {
    private static final long MOST = 1000000000000000000L;

    private static void plainGame() {
        NinepinAlley x = Check.of("pins 2; frames 2; rolls 1;");
        Check.due("least", x.come(false), 0);
        Check.due("most", x.come(true), 4);
        long[] ways = {1, 2, 3, 2, 1};
        long more = 9;
        for (int n = 0; n < 5; n++) {
            Check.due("ways(" + n + ", false)", x.ways(n, false), ways[n]);
            Check.due("ways(" + n + ", true)", x.ways(n, true), more);
            more -= ways[n];
        }
        int[] odd = {-1, 5, 449, 450, -401, 1000000, -1000000, Integer.MAX_VALUE, Integer.MIN_VALUE};
        for (int n : odd) {
            Check.due("ways(" + n + ", false)", x.ways(n, false), 0);
            Check.due("ways(" + n + ", true)", x.ways(n, true), n < 0 ? 9 : 0);
        }
        int[] can = {0, 0, 0, 1, 2, -1};
        int[] sure = {0, 1, 2, -1, -1, -1};
        for (int target = 0; target < 6; target++) {
            Check.due("needs(" + target + ", false)", x.needs(target, false), can[target]);
            Check.due("needs(" + target + ", true)", x.needs(target, true), sure[target]);
        }
        Check.due("needs(min)", x.needs(Integer.MIN_VALUE, true), 0);
        Check.due("needs(max)", x.needs(Integer.MAX_VALUE, false), -1);
    }

    private static void asTheSheetGoesOn() {
        NinepinAlley x = Check.of("pins 2; frames 2; rolls 1; foul 3;");
        Check.rolls(x, -2);
        Check.due("least with a foul", x.come(false), -3);
        Check.due("no fouls to come", x.come(true), -1);
        Check.due("ways(-3)", x.ways(-3, false), 1);
        Check.due("all ways", x.ways(-1000000, true), 3);
        Check.due("needs(-2)", x.needs(-2, true), 1);
        Check.rolls(x, 1);
        Check.due("whole: least", x.come(false), -2);
        Check.due("whole: most", x.come(true), -2);
        Check.due("whole: ways(-2)", x.ways(-2, false), 1);
        Check.due("whole: ways(-3, more)", x.ways(-3, true), 1);
        Check.due("whole: ways(-1, more)", x.ways(-1, true), 0);
        Check.due("whole: needs", x.needs(-100, false), -1);
        Check.due("whole: needs, sure", x.needs(-100, true), -1);
        x.back();
        Check.due("least once more", x.come(false), -3);
        x.clear();
        Check.due("least of an empty sheet", x.come(false), 0);
    }

    /** More pins can be worth less, so the least number is not always where the target begins to be met. */
    private static void worthsTurnItRound() {
        NinepinAlley x = Check.of("pins 4; frames 1; rolls 1; worth 20 when down = 1; worth 0-20 when down > 2;");
        Check.due("least", x.come(false), -17);
        Check.due("most", x.come(true), 21);
        int[] targets = {0, 1, 2, 3, 21, 22, -16, -17};
        int[] due = {0, 1, 1, 1, 1, -1, 0, 0};
        for (int i = 0; i < targets.length; i++) {
            Check.due("needs(" + targets[i] + ", false)", x.needs(targets[i], false), due[i]);
            Check.due("needs(" + targets[i] + ", true)", x.needs(targets[i], true), due[i]);
        }
    }

    private static void fillsToCome() {
        NinepinAlley x = Check.of("pins 3; frames 1; rolls 1; clean 1 earns 2;");
        Check.due("most", x.come(true), 9);
        Check.due("all ways", x.ways(0, true), 3 + 4 + 3 + 2 + 4);
        Check.rolls(x, 3);
        Check.due("least", x.come(false), 3);
        Check.due("needs(9)", x.needs(9, false), 3);
        Check.due("needs(6)", x.needs(6, false), 0);
        Check.due("needs(6), sure", x.needs(6, true), 3);
        Check.rolls(x, 1);
        Check.due("most behind a fill", x.come(true), 6);
        Check.due("ways behind a fill", x.ways(0, true), 3);
        Check.due("needs(6) behind a fill", x.needs(6, false), 2);
        Check.due("needs(7) behind a fill", x.needs(7, false), -1);
    }

    private static void greatGames() {
        NinepinAlley x = Check.of("pins 9; frames 8; rolls 3; clean 1 earns 3;");
        Check.due("all ways", x.ways(-1000000, true), MOST);
        Check.due("most", x.come(true), 288);
        Check.due("ways to it", x.ways(288, false), 1);
        Check.due("ways to it and more", x.ways(288, true), 1);
        Check.due("ways to 0", x.ways(0, false), 1);
        Check.due("ways to 1", x.ways(1, false), 24);
        x = Check.of("pins 9; frames 8; rolls 3; clean 1 earns 3; clean 2 earns 3; clean 3 earns 3;"
                + "worth 20 when down = 9; foul 10;");
        Check.due("most", x.come(true), 448);
        x = Check.of("pins 9; frames 8; rolls 3; worth 0-20 when all; foul 10;");
        for (int i = 0; i < 23; i++) {
            Check.rolls(x, -2);
        }
        Check.due("least of all", x.come(false), -390);
        Check.due("needs(-381)", x.needs(-381, true), 9);
        Check.rolls(x, -2);
        Check.due("least of all", x.come(false), -400);
        Check.due("its total", x.total(), -400);
        Check.due("ways(-400)", x.ways(-400, false), 1);
    }

    public static void main(String[] args) {
        plainGame();
        asTheSheetGoesOn();
        worthsTurnItRound();
        fillsToCome();
        greatGames();
        Check.end();
    }
}
