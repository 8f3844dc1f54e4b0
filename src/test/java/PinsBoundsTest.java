/** Promises 21 to 24 at their bounds: pins. */
public final class PinsBoundsTest {
    private static final int MIN = Integer.MIN_VALUE;
    private static final int MAX = Integer.MAX_VALUE;

    private static void pinsAre(NinepinAlley x, int stand, int split, int fewest, int leaves) {
        Check.due("split(" + stand + ")", x.split(stand), split);
        Check.due("fewest(" + stand + ")", x.fewest(stand), fewest);
        Check.due("leaves(" + stand + ")", x.leaves(stand), leaves);
    }

    private static void numbersThatCanBe() {
        for (int pins = 1; pins <= 9; pins++) {
            int all = (1 << pins) - 1;
            NinepinAlley x = Check.of("pins " + pins + ";");
            Check.promise(21, "some PINS (bits, 1 .. 511); NONE when a number can't be, or it has PINS the GAME has not");
            int[] never = {-1, all + 1, all + 2, 2 * all + 1, 512, 513, 1023, MAX, MIN, MIN + 1};
            for (int n : never) {
                Check.due("falls(" + n + ", 1) of " + pins, x.falls(n, 1), -1);
                Check.due("falls(" + all + ", " + n + ") of " + pins, x.falls(all, n), -1);
                Check.due("falls(" + n + ", " + n + ") of " + pins, x.falls(n, n), -1);
                Check.due("falls(" + n + ", 0) of " + pins, x.falls(n, 0), -1);
                Check.promise(22, "PINS that stand (0 .. 511): NONE likewise");
                Check.due("split(" + n + ") of " + pins, x.split(n), -1);
                Check.promise(23, "NONE likewise");
                Check.due("fewest(" + n + ") of " + pins, x.fewest(n), -1);
                Check.promise(24, "NONE likewise");
                Check.due("leaves(" + n + ") of " + pins, x.leaves(n), -1);
                Check.promise(21, "NONE when a number can't be, or it has PINS that the GAME has not");
            }
            Check.due("falls(.., 0)", x.falls(all, 0), -1);
            Check.due("falls(0, 0)", x.falls(0, 0), -1);
            Check.due("falls(.., 1)", x.falls(all, 1), 1);
            Check.due("falls of the last", x.falls(all, 1 << pins - 1), 1);
            Check.due("falls of all", x.falls(all, all), pins == 1 ? 1 : 0);
            Check.due("falls(0, all)", x.falls(0, all), 0);
            Check.promise(22, "PINS that stand (0 .. 511)");
            pinsAre(x, 0, 0, 0, 0);
            pinsAre(x, 1, 0, 1, 1);
            pinsAre(x, all, pins == 1 ? 0 : 1, pins, pins);
            pinsAre(x, 1 << pins - 1, 0, 1, 1);
        }
    }

    private static void notAllStand() {
        Check.promise(21, "0 (also if not all of them stand)");
        NinepinAlley x = Check.of("pins 4; joins 0 1; joins 1 2; joins 2 3;");
        for (int stand = 0; stand < 16; stand++) {
            for (int fallen = 1; fallen < 16; fallen++) {
                // in a chain those hang together that have no gap between them
                int low = fallen & -fallen;
                boolean together = (fallen + low & fallen) == 0;
                boolean stands = (fallen & stand) == fallen;
                Check.due("falls(" + stand + ", " + fallen + ")", x.falls(stand, fallen), together && stands ? 1 : 0);
            }
        }
    }

    private static void joinsAmongThemselves() {
        Check.promise(21, "hang together by joins among themselves: not by a PIN that does not fall");
        NinepinAlley x = Check.of("joins 0 8; joins 8 4;");
        Check.due("falls(511, 17)", x.falls(511, 0b000010001), 0);
        Check.due("falls(511, 273)", x.falls(511, 0b100010001), 1);
        Check.due("falls(273, 17)", x.falls(0b100010001, 0b000010001), 0);
        Check.due("falls(273, 257)", x.falls(0b100010001, 0b100000001), 1);
        Check.promise(22, "A SPLIT: PINS that stand, two at least, that do not hang together by joins among themselves");
        pinsAre(x, 0b100000000, 0, 1, 1);
        pinsAre(x, 0b000010001, 1, 2, 2);
        pinsAre(x, 0b100000001, 0, 1, 3);
        pinsAre(x, 0b100010001, 0, 1, 6);
        pinsAre(x, 0b100010011, 1, 2, 7);
        pinsAre(x, 511, 1, 7, 12);
        Check.promise(22, "joins of PINS that the GAME has not join nothing");
        x = Check.of("pins 8; joins 0 8; joins 8 4;");
        Check.due("has(8)", x.has(8), 2);
        pinsAre(x, 0b10001, 1, 2, 2);
        pinsAre(x, 255, 1, 8, 8);
        x = Check.of("pins 1; joins 0 1;");
        pinsAre(x, 1, 0, 1, 1);
        pinsAre(x, 3, -1, -1, -1);
        Check.promise(22, "joins go both ways, and as far as they lead");
        x = Check.of("joins 8 7; joins 7 6; joins 6 5; joins 5 4; joins 4 3; joins 3 2; joins 2 1; joins 1 0;");
        pinsAre(x, 511, 0, 1, 45);
        pinsAre(x, 0b111101111, 1, 2, 20);
        x = Check.of("joins 0 4; joins 4 8; joins 8 1; joins 1 5; joins 5 2; joins 2 6; joins 6 3; joins 3 7;");
        pinsAre(x, 511, 0, 1, 45);
        Check.due("falls(511, 511)", x.falls(511, 511), 1);
        x = Check.of("joins 7 3; joins 3 6; joins 6 2; joins 2 5; joins 5 1; joins 1 8; joins 8 4; joins 4 0;");
        pinsAre(x, 511, 0, 1, 45);
    }

    private static void manyJoins() {
        Check.promise(24, "how many unlike sets can be left by one ROLL that takes one at least");
        StringBuilder star = new StringBuilder();
        for (int pin = 1; pin <= 8; pin++) {
            star.append("joins 0 ").append(pin).append(';');
        }
        NinepinAlley x = Check.of(star.toString());
        pinsAre(x, 511, 0, 1, 256 + 8);
        pinsAre(x, 510, 1, 8, 8);
        pinsAre(x, 3, 0, 1, 3);
        // all joined with all: each set but the empty one
        StringBuilder all = new StringBuilder("pins 8;");
        for (int one = 0; one < 8; one++) {
            for (int other = 0; other < one; other++) {
                all.append("joins ").append(one).append(' ').append(other).append(';');
            }
        }
        x = Check.of(all.toString());
        pinsAre(x, 255, 0, 1, 255);
        pinsAre(x, 0b10100101, 0, 1, 15);
        Check.promise(23, "how many ROLLS take them all, if FALLS go as well as can be");
        x = Check.of("joins 0 1; joins 2 3; joins 4 5; joins 6 7;");
        pinsAre(x, 511, 1, 5, 13);
        pinsAre(x, 255, 1, 4, 12);
        pinsAre(x, 0b011111111 & ~2, 1, 4, 10);
        pinsAre(x, 0b101010101, 1, 5, 5);
    }

    private static void nothingChanges() {
        Check.promise(21, "refused, and nothing changes");
        State.stays("falls(16, 1)", Made::torn, x -> Check.due("falls", x.falls(16, 1), -1));
        State.stays("falls(15, 0)", Made::torn, x -> Check.due("falls", x.falls(15, 0), -1));
        State.stays("falls(15, 3)", Made::torn, x -> Check.due("falls", x.falls(15, 3), 1));
        Check.promise(22, "refused, and nothing changes");
        State.stays("split(16)", Made::torn, x -> Check.due("split", x.split(16), -1));
        State.stays("split(5)", Made::torn, x -> Check.due("split", x.split(5), 1));
        Check.promise(23, "refused, and nothing changes");
        State.stays("fewest(-1)", Made::torn, x -> Check.due("fewest", x.fewest(-1), -1));
        State.stays("fewest(15)", Made::torn, x -> Check.due("fewest", x.fewest(15), 2));
        Check.promise(24, "refused, and nothing changes");
        State.stays("leaves(16)", Made::torn, x -> Check.due("leaves", x.leaves(16), -1));
        State.stays("leaves(15)", Made::torn, x -> Check.due("leaves", x.leaves(15), 6));
        Check.promise(21, "PINS are those of the GAME, whatever the sheet is");
        NinepinAlley x = Made.whole();
        Check.due("falls(15, 12)", x.falls(15, 12), 1);
        Check.game(x, "pins 9;");
        Check.due("falls(511, 256) of another game", x.falls(511, 256), 1);
        Check.due("falls(15, 12) of another game", x.falls(15, 12), 0);
        Check.game(x, "pins 2;?");
        Check.due("falls(511, 256) behind a fault", x.falls(511, 256), 1);
    }

    public static void main(String[] args) {
        numbersThatCanBe();
        notAllStand();
        joinsAmongThemselves();
        manyJoins();
        nothingChanges();
        Check.end();
    }
}
