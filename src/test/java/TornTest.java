/** Promises 18 to 20: torn sheets. */
public final class TornTest {
    private static void tearing() {
        NinepinAlley x = Check.of("pins 2; frames 2; rolls 1;");
        Check.rolls(x, 1);
        Check.due("tear, not whole", x.tear(0, true), false);
        Check.due("fits, not whole", x.fits(0, true), -1);
        Check.due("must, not whole", x.must(0, 0, true), -1);
        Check.rolls(x, 2);
        Check.due("tear(-1)", x.tear(-1, true), false);
        Check.due("tear(3)", x.tear(3, true), false);
        Check.due("tear(max)", x.tear(Integer.MAX_VALUE, true), false);
        Check.due("fits of nothing torn", x.fits(0, true), 1);
        Check.due("fits(3)", x.fits(3, false), 1);
        Check.due("fits(2)", x.fits(2, false), 0);
        Check.due("fills that are not there", x.tear(2, true), true);
        Check.due("fits still", x.fits(0, true), 1);
        Check.due("tear(0)", x.tear(0, true), true);
        Check.due("tear(0) again", x.tear(0, true), true);
        Check.due("fits", x.fits(0, true), 3);
        Check.due("fits(4)", x.fits(4, false), 1);
        Check.due("fits(max)", x.fits(Integer.MAX_VALUE, false), 0);
        Check.due("fits(min)", x.fits(Integer.MIN_VALUE, false), 0);
        Check.due("must(0)", x.must(0, 0, true), 7);
        Check.due("must(0, 4)", x.must(0, 4, false), 4);
        Check.due("must(0, 5)", x.must(0, 5, false), 0);
        Check.due("must(1, 4)", x.must(1, 4, false), 4);
        Check.due("must(2)", x.must(2, 0, true), -1);
        Check.due("must(-1)", x.must(-1, 0, true), -1);
        Check.due("not torn any more", x.tear(0, false), true);
        Check.due("fits", x.fits(0, true), 1);
        Check.due("the sheet is as it was", x.total(), 3);
    }

    private static void fouls() {
        NinepinAlley x = Check.of("pins 2; frames 2; rolls 2; foul 5;");
        Check.rolls(x, -2, 1, -2, -2);
        Check.due("total", x.total(), -14);
        Check.due("must of a foul", x.must(0, 0, true), 1);
        x.tear(1, true);
        Check.due("torn ones have no fouls", x.fits(-14, false), 0);
        // 0 0, 0 1, 0 2, 1 0, 1 1, 2
        Check.due("fits", x.fits(0, true), 6);
        Check.due("fits(-4)", x.fits(-4, false), 1);
        Check.due("fits(-3)", x.fits(-3, false), 2);
        Check.due("must(1, -2)", x.must(1, -2, false), 7);
        Check.due("must(0, -2)", x.must(0, -2, false), 1);
        x.tear(0, true);
        Check.due("fits of all torn", x.fits(0, true), 36);
        Check.due("fits(4)", x.fits(4, false), 9);
    }

    private static void fillsThatStand() {
        NinepinAlley x = Check.of("pins 2; frames 2; rolls 2; clean 1 earns 2; clean 2 earns 1;");
        Check.rolls(x, 0, 0, 2, 1, 1);
        Check.due("total", x.total(), 4);
        x.tear(1, true);
        Check.due("two fills are earned by one frame only", x.fits(0, true), 1);
        Check.due("must", x.must(1, 0, true), 4);
        x.tear(2, true);
        // no fill behind 0 0, 0 1, 1 0; one, of 3 kinds, behind 0 2, 1 1; two behind 2, of 3 + 2 + 3 kinds
        Check.due("fills torn too", x.fits(0, true), 3 + 2 * 3 + 8);
        x.tear(0, true);
        x.tear(1, false);
        x.tear(2, false);
        // the last frame stands and earns both fills itself, so the first one is free
        Check.due("first torn", x.fits(0, true), 6);
        Check.due("first clean: 2 + 2 + 1 + 4", x.fits(9, false), 1);
        Check.due("its first roll", x.must(0, 9, false), 4);
        x.clear();
        Check.rolls(x, 0, 0, 0, 0);
        x.tear(1, true);
        Check.due("no fill stands", x.fits(0, true), 3);
        Check.due("no fill stands", x.must(1, 0, true), 3);
        x.tear(2, true);
        Check.due("fills torn that were not there", x.fits(0, true), 17);
        Check.due("must", x.must(1, 0, true), 7);
    }

    private static void foulFills() {
        NinepinAlley x = Check.of("pins 3; frames 1; rolls 1; clean 1 earns 2;");
        Check.rolls(x, 3, -2, 2);
        Check.due("total", x.total(), 5);
        x.tear(0, true);
        Check.due("fits", x.fits(0, true), 1);
        Check.due("fits(5)", x.fits(5, false), 1);
        Check.due("must", x.must(0, 0, true), 8);
    }

    private static void allTorn() {
        NinepinAlley x = Check.of("frames 8; rolls 3; clean 1 earns 3;");
        long ways = x.ways(10, false);
        for (int i = 0; i < 24; i++) {
            Check.rolls(x, 0);
        }
        for (int f = 0; f <= 8; f++) {
            Check.due("tear", x.tear(f, true), true);
        }
        Check.due("fits as ways", x.fits(10, false), ways);
        Check.due("fits at most", x.fits(0, true), 1000000000000000000L);
        Check.due("must", x.must(7, 0, false), 1);
        Check.due("must", x.must(7, 288, false), 512);
        Check.due("must", x.must(3, 0, true), 1023);
    }

    public static void main(String[] args) {
        tearing();
        fouls();
        fillsThatStand();
        foulFills();
        allTorn();
        Check.end();
    }
}
