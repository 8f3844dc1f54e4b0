/** Promises 21 to 24: pins. */
public final class PinsTest {
    private static void due(NinepinAlley x, int stand, int split, int fewest, int leaves) {
        Check.due("split(" + stand + ")", x.split(stand), split);
        Check.due("fewest(" + stand + ")", x.fewest(stand), fewest);
        Check.due("leaves(" + stand + ")", x.leaves(stand), leaves);
    }

    private static void chain() {
        NinepinAlley x = Check.of("pins 5; joins 0 1; joins 2 1; joins 3 4;");
        due(x, 0, 0, 0, 0);
        due(x, 1, 0, 1, 1);
        due(x, 3, 0, 1, 3);
        due(x, 5, 1, 2, 2);
        due(x, 7, 0, 1, 6);
        due(x, 24, 0, 1, 3);
        due(x, 31, 1, 2, 9);
        due(x, 21, 1, 3, 3);
        Check.due("falls(7, 7)", x.falls(7, 7), 1);
        Check.due("falls(7, 5)", x.falls(7, 5), 0);
        Check.due("falls(5, 7), one does not stand", x.falls(5, 7), 0);
        Check.due("falls(0, 1)", x.falls(0, 1), 0);
        Check.due("falls(31, 12)", x.falls(31, 12), 0);
        Check.due("falls(31, 24)", x.falls(31, 24), 1);
        Check.due("falls(31, 1)", x.falls(31, 1), 1);
    }

    private static void numbersThatCannotBe() {
        NinepinAlley x = Check.of("pins 5; joins 4 5; joins 5 3;");
        int[] never = {32, 511, 512, -1, Integer.MAX_VALUE, Integer.MIN_VALUE};
        for (int n : never) {
            due(x, n, -1, -1, -1);
            Check.due("falls(" + n + ", 1)", x.falls(n, 1), -1);
            Check.due("falls(31, " + n + ")", x.falls(31, n), -1);
        }
        Check.due("falls(31, 0)", x.falls(31, 0), -1);
        Check.due("a join through a pin that is not there", x.split(24), 1);
        x = new NinepinAlley();
        due(x, 511, 1, 9, 9);
        due(x, 512, -1, -1, -1);
        Check.due("falls(511, 512)", x.falls(511, 512), -1);
    }

    private static void ring() {
        NinepinAlley x = Check.of("joins 0 1; joins 1 2; joins 2 3; joins 3 4; joins 4 5; joins 5 6; joins 6 7;"
                + "joins 7 8; joins 8 0;");
        due(x, 511, 0, 1, 9 * 8 + 1);
        due(x, 510, 0, 1, 36);
        due(x, 0b101010101, 1, 4, 6);
    }

    public static void main(String[] args) {
        chain();
        numbersThatCannotBe();
        ring();
        Check.end();
    }
}
