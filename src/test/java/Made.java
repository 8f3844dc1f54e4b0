/** Objects in states from which the tests begin: each call makes a new one, always the same. */
final class Made {
    static final String LAWS = "pins 4; frames 3; rolls 2; clean 1 earns 3; clean 2 earns 1; foul 2; joins 0 1;"
            + "joins 2 3; worth 3 when down = 4; worth 0 - 1 when fouls > 0; handicap 12 - mean + games;";
    private static final int[] EVERY_SIZE = {1, 3, -2, 1, 4, 3, 1, -2};

    private Made() {
    }

    static NinepinAlley fresh() {
        return new NinepinAlley();
    }

    /** A game with all kinds of laws, players with totals, an image, a fault behind it, an empty sheet and tape. */
    static NinepinAlley empty() {
        NinepinAlley x = Check.of(LAWS);
        Check.rolls(x, 0, 4, 2, 2, 4, 4, 0, 0);
        x.keep(0);
        x.keep(1);
        x.keep(0);
        x.clear();
        Check.rolls(x, 1, -2, 1, 0, 1, 0);
        x.keep(5);
        x.keep(1);
        x.clear();
        Check.rolls(x, 2, -2, 3);
        x.image();
        x.clear();
        Check.due("a fault behind the game", Check.game(x, "pins 7; joins 1 2; frames 0;"), -1);
        return x;
    }

    private static void text(NinepinAlley x) {
        Check.tape(x, "pins 5; joins 0 4; foul 7;");
    }

    /** The same with so many rolls on its sheet (8: it is whole) and a text on its tape. */
    static NinepinAlley with(int rolls) {
        NinepinAlley x = empty();
        for (int i = 0; i < rolls; i++) {
            Check.rolls(x, EVERY_SIZE[i]);
        }
        text(x);
        return x;
    }

    static int rollsOfWhole() {
        return EVERY_SIZE.length;
    }

    static NinepinAlley noRolls() {
        return with(0);
    }

    /** One roll in a frame. */
    static NinepinAlley halfway() {
        return with(3);
    }

    /** One fill of three. */
    static NinepinAlley inFills() {
        return with(6);
    }

    static NinepinAlley whole() {
        return with(EVERY_SIZE.length);
    }

    /** Whole, with the first frame and the fills torn. */
    static NinepinAlley torn() {
        NinepinAlley x = whole();
        Check.due("tear(0, true)", x.tear(0, true), true);
        Check.due("tear(3, true)", x.tear(3, true), true);
        return x;
    }

    /** Whole, with a tape that has no byte left. */
    static NinepinAlley fullTape() {
        NinepinAlley x = torn();
        Check.tape(x, "pins 5; joins 0 4;" + " ".repeat(674) + "foul 10;");
        return x;
    }
}
