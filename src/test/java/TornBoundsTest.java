import java.math.BigInteger;

/** Promises 18 to 20 at their bounds: torn sheets. */
public final class TornBoundsTest {
    private static final int MIN = Integer.MIN_VALUE;
    private static final int MAX = Integer.MAX_VALUE;
    private static final long MOST = 1000000000000000000L;

    private static NinepinAlley rolled(String laws, int... rolls) {
        NinepinAlley x = Check.of(laws);
        Check.rolls(x, rolls);
        return x;
    }

    private static NinepinAlley torn(NinepinAlley x, int... frames) {
        for (int f : frames) {
            Check.due("tear(" + f + ", true)", x.tear(f, true), true);
        }
        return x;
    }

    /** How many fits there are of each total, from the least on; all others are 0. */
    private static void fitsAre(NinepinAlley x, int least, long... fits) {
        long all = 0;
        for (int i = 0; i < fits.length; i++) {
            all += fits[i];
            Check.due("fits(" + (least + i) + ", false)", x.fits(least + i, false), fits[i]);
        }
        int[] totals = {least - 1, least + fits.length, -401, 449, 450, 1000000, -1000000, MIN, MAX};
        for (int n : totals) {
            Check.due("fits(" + n + ", false)", x.fits(n, false), 0);
            Check.due("fits(" + n + ", true)", x.fits(n, true), all);
        }
    }

    // ---- promise 18

    private static void framesThatAre() {
        Check.promise(18, "false when there is none such");
        for (int frames = 1; frames <= 8; frames++) {
            NinepinAlley x = Check.of("pins 1; frames " + frames + "; rolls 1;");
            for (int f = 0; f < frames; f++) {
                Check.due("tear, not whole", x.tear(f, true), false);
                Check.due("tear, not whole", x.tear(frames, false), false);
                Check.rolls(x, 0);
            }
            for (int f = -2; f <= 10; f++) {
                boolean can = f >= 0 && f <= frames;
                Check.due("tear(" + f + ", true) of " + frames, x.tear(f, true), can);
                Check.due("tear(" + f + ", false) of " + frames, x.tear(f, false), can);
            }
            int[] never = {MIN, MAX, 255, 256, -256};
            for (int f : never) {
                Check.due("tear(" + f + ", true)", x.tear(f, true), false);
                Check.due("tear(" + f + ", false)", x.tear(f, false), false);
            }
            Check.due("nothing is torn", x.fits(0, true), 1);
        }
        int[] never = {-1, 4, 5, 8, 9, MIN, MAX};
        for (int f : never) {
            State.stays("tear(" + f + ", true)", Made::whole, x -> Check.due("tear", x.tear(f, true), false));
            State.stays("tear(" + f + ", false)", Made::torn, x -> Check.due("tear", x.tear(f, false), false));
        }
    }

    private static void notWhole() {
        Check.promise(18, "false when it is not WHOLE");
        for (int n = 0; n < Made.rollsOfWhole(); n++) {
            int rolls = n;
            for (int f = 0; f <= 3; f++) {
                int frame = f;
                Check.due("tear(" + f + ") of " + n + " rolls", Made.with(n).tear(f, true), false);
                if (n == 0 || n == 3 || n == 7) {
                    State.stays("tear(" + f + ")", () -> Made.with(rolls),
                            x -> Check.due("tear", x.tear(frame, true), false));
                }
            }
            // nothing of a tear that was refused is left when the sheet becomes whole
            NinepinAlley x = Made.with(7);
            x.tear(n % 4, true);
            Check.rolls(x, -2);
            Check.due("fits", x.fits(0, true), 1);
        }
    }

    private static void tornOrNotSoAnyMore() {
        Check.promise(18, "is TORN, or not so any more: true");
        NinepinAlley x = torn(Made.whole(), 0, 3);
        Check.due("not torn any more", x.tear(0, false), true);
        Check.due("not torn any more", x.tear(3, false), true);
        State.alike("torn and not so any more", x, Made.whole());
        x = Made.torn();
        Check.due("torn already", x.tear(0, true), true);
        Check.due("torn already", x.tear(3, true), true);
        Check.due("was not torn", x.tear(1, false), true);
        State.alike("torn twice", x, Made.torn());
        x = rolled("pins 2; frames 3; rolls 1;", 0, 1, 2);
        long[] due = {1, 3, 9, 27};
        for (int f = 0; f < 3; f++) {
            Check.due("fits", x.fits(0, true), due[f]);
            torn(x, f);
        }
        Check.due("fits", x.fits(0, true), 27);
        for (int f = 0; f < 3; f++) {
            x.tear(f, false);
            Check.due("fits", x.fits(0, true), due[2 - f]);
        }
        Check.promise(18, "(the FILLS may be TORN without any there)");
        x = rolled("pins 2; frames 1; rolls 1;", 0);
        Check.due("tear(1, true)", x.tear(1, true), true);
        Check.due("none are earned", x.fits(0, true), 1);
        x = rolled("pins 2; frames 1; rolls 1; clean 1 earns 1;", 0);
        torn(x, 0);
        Check.due("0 and 1 earn none", x.fits(0, true), 2);
        torn(x, 1);
        Check.due("2 earns one of 0, 1, 2", x.fits(0, true), 5);
    }

    // ---- promise 19

    private static void fitsOfNoWhole() {
        Check.promise(19, "NONE when THE SHEET is not WHOLE");
        for (int n = 0; n < Made.rollsOfWhole(); n++) {
            int[] totals = {0, 16, MIN, MAX};
            for (int total : totals) {
                Check.due("fits(" + total + ", true) of " + n, Made.with(n).fits(total, true), -1);
                Check.due("fits(" + total + ", false) of " + n, Made.with(n).fits(total, false), -1);
            }
        }
        State.stays("fits, not whole", Made::halfway, x -> Check.due("fits", x.fits(0, true), -1));
        State.stays("fits", Made::torn, x -> Check.due("fits", x.fits(0, true) > 0, true));
        NinepinAlley x = Made.torn();
        x.back();
        Check.due("fits behind back()", x.fits(0, true), -1);
        x.clear();
        Check.due("fits behind clear()", x.fits(0, true), -1);
    }

    private static void fitsOfTotals() {
        Check.promise(19, "How many FITS have a TOTAL of n, or (any) whatever TOTAL");
        fitsAre(rolled("pins 1; frames 1; rolls 1;", 0), 0, 1);
        fitsAre(torn(rolled("pins 1; frames 1; rolls 1;", 0), 0), 0, 1, 1);
        fitsAre(Made.whole(), 16, 1);
        fitsAre(torn(rolled("pins 2; frames 2; rolls 1;", 1, 2), 0), 2, 1, 1, 1);
        fitsAre(torn(rolled("pins 2; frames 2; rolls 1;", 1, 2), 1), 1, 1, 1, 1);
        fitsAre(torn(rolled("pins 2; frames 2; rolls 1;", 1, 2), 0, 1), 0, 1, 2, 3, 2, 1);
        // a torn frame takes other rolls away from what the one before it earns
        fitsAre(torn(rolled("pins 2; frames 2; rolls 1; clean 1 earns 1;", 2, 0), 1), 2, 1, 0, 1);
        fitsAre(torn(rolled("pins 2; frames 2; rolls 1; clean 1 earns 1;", 2, 0), 1, 2), 2, 1, 0, 1, 0, 1, 1, 1);
        Check.promise(19, "FRAMES that are not TORN are as they stand there (FOULS, too), TORN ones without FOULS");
        fitsAre(rolled("pins 1; frames 2; rolls 1; foul 9;", -2, -2), -18, 1);
        fitsAre(torn(rolled("pins 1; frames 2; rolls 1; foul 9;", -2, -2), 1), -9, 1, 1);
        fitsAre(torn(rolled("pins 1; frames 2; rolls 1; foul 9;", -2, -2), 0), -9, 1, 1);
        fitsAre(torn(rolled("pins 1; frames 2; rolls 1; foul 9;", -2, -2), 0, 1), 0, 1, 2, 1);
        fitsAre(torn(rolled("pins 1; frames 1; rolls 2; foul 9;", -2, 1), 0), 0, 1, 2);
        Check.promise(19, "TORN FILLS without FOULS, others as they stand there");
        NinepinAlley x = rolled("pins 2; frames 1; rolls 1; clean 1 earns 2;", 2, -2, 1);
        fitsAre(x, 3, 1);
        fitsAre(torn(x, 1), 2, 1, 2, 3, 1, 1);
        x = rolled("pins 2; frames 1; rolls 1; clean 1 earns 2;", 2, -2, 1);
        fitsAre(torn(x, 0), 3, 1);
    }

    private static void fillsAsMany() {
        Check.promise(19, "FILLS as many as are earned then (if they are not TORN: as they stand there, as many, too)");
        String laws = "pins 2; frames 2; rolls 2; clean 1 earns 2; clean 2 earns 1;";
        // none stand: what earns one or two can't be
        NinepinAlley x = torn(rolled(laws, 0, 0, 0, 0), 1);
        Check.due("no fill stands: 0 0, 0 1, 1 0", x.fits(0, true), 3);
        // one stands: 0 2, 1 1, and clean by the first (two) not
        x = torn(rolled(laws, 0, 0, 0, 2, 1), 1);
        Check.due("one fill stands", x.fits(0, true), 2);
        Check.due("one fill stands: must", x.must(1, 0, true), 3);
        // two stand
        x = torn(rolled(laws, 0, 0, 2, 1, 1), 1);
        Check.due("two fills stand", x.fits(0, true), 1);
        Check.due("two fills stand: must", x.must(1, 0, true), 4);
        // a frame ahead earns them as well: 2 then one roll of the last frame, one fill
        laws = "pins 2; frames 2; rolls 1; clean 1 earns 2;";
        x = torn(rolled(laws, 2, 1, 0), 0);
        Check.due("one fill, earned by the first alone", x.fits(0, true), 1);
        Check.due("one fill, earned by the first alone", x.must(0, 0, true), 4);
        x = torn(rolled(laws, 0, 2, 1, 0), 0);
        Check.due("two fills, whatever the first is", x.fits(0, true), 3);
        x = torn(rolled(laws, 2, 1, 0), 1);
        Check.due("one fill: the last is not clean", x.fits(0, true), 2);
        Check.due("one fill: the last is not clean", x.must(1, 0, true), 3);
        x = torn(rolled(laws, 2, 1, 0), 0, 1);
        Check.due("one fill: the first clean, the last not", x.fits(0, true), 2);
        x = torn(rolled(laws, 1, 1), 0, 1);
        Check.due("no fill: none clean", x.fits(0, true), 4);
        x = torn(rolled(laws, 1, 1), 0, 1, 2);
        // no fill 4, one fill (first clean, last not) 2 * 3, two fills (last clean) 3 * (3 + 2 + 3)
        Check.due("all torn", x.fits(0, true), 4 + 6 + 24);
        // frames that stand and fills that stand, though a torn one leaves no sheet
        x = torn(rolled("pins 1; frames 2; rolls 2; clean 1 earns 1;", 0, 1, 1, 1), 1);
        Check.due("one fill stands", x.fits(0, true), 1);
        Check.due("and no other total", x.fits(1, false), 0);
    }

    private static void fitsAtMost() {
        Check.promise(19, "10 to the 18 at most");
        long eight = BigInteger.valueOf(165).pow(8).longValueExact();
        NinepinAlley x = Check.of("pins 8; frames 8; rolls 3; worth 8 - down when all;");
        for (int i = 0; i < 24; i++) {
            x.roll(0);
        }
        torn(x, 0, 1, 2, 3, 4, 5, 6, 7);
        Check.due("165 to the 8", x.fits(64, false), eight);
        Check.due("165 to the 8", x.fits(0, true), eight);
        Check.due("none beside", x.fits(63, false) + x.fits(65, false), 0);
        x = Check.of("pins 9; frames 8; rolls 3; worth 9 - down when all;");
        for (int i = 0; i < 24; i++) {
            x.roll(-2);
        }
        torn(x, 0, 1, 2, 3, 4, 5, 6);
        Check.due("220 to the 7", x.fits(0, true), BigInteger.valueOf(220).pow(7).longValueExact());
        torn(x, 7);
        Check.due("220 to the 8", x.fits(72, false), MOST);
        Check.due("220 to the 8", x.fits(0, true), MOST);
        Check.due("none beside", x.fits(71, false) + x.fits(73, false), 0);
    }

    // ---- promise 20

    private static void mustOfNone() {
        Check.promise(20, "NONE when there is none such (not of FILLS), or THE SHEET is not WHOLE");
        for (int n = 0; n < Made.rollsOfWhole(); n++) {
            for (int f = -1; f <= 4; f++) {
                Check.due("must(" + f + ") of " + n + " rolls", Made.with(n).must(f, 0, true), -1);
            }
        }
        for (int frames = 1; frames <= 8; frames++) {
            NinepinAlley x = Check.of("pins 1; frames " + frames + "; rolls 1;");
            for (int f = 0; f < frames; f++) {
                x.roll(f % 2);
            }
            torn(x, frames);
            for (int f = -2; f <= 10; f++) {
                boolean can = f >= 0 && f < frames;
                Check.due("must(" + f + ") of " + frames, x.must(f, 0, true), can ? 1 << f % 2 : -1);
            }
            int[] never = {MIN, MAX};
            for (int f : never) {
                Check.due("must(" + f + ")", x.must(f, 0, true), -1);
                Check.due("must(" + f + ")", x.must(f, 0, false), -1);
            }
        }
        int[] never = {-1, 3, 4, MIN, MAX};
        for (int f : never) {
            State.stays("must(" + f + ")", Made::torn, x -> Check.due("must", x.must(f, 0, true), -1));
        }
        State.stays("must, not whole", Made::halfway, x -> Check.due("must", x.must(0, 0, true), -1));
        State.stays("must", Made::torn, x -> Check.due("must", x.must(0, 16, false) > 0, true));
    }

    private static void mustBits() {
        Check.promise(20, "MUST of a FRAME: what its first ROLL takes in some of the FITS, as bits");
        for (int pins = 1; pins <= 9; pins++) {
            for (int n = 0; n <= pins; n++) {
                NinepinAlley x = rolled("pins " + pins + "; frames 1; rolls 1;", n);
                Check.due("not torn", x.must(0, 0, true), 1 << n);
                Check.due("not torn, its total", x.must(0, n, false), 1 << n);
                Check.due("not torn, another total", x.must(0, n + 1, false), 0);
                torn(x, 0);
                Check.due("torn", x.must(0, 0, true), (1 << pins + 1) - 1);
                Check.due("torn, a total", x.must(0, pins, false), 1 << pins);
                Check.due("torn, no total", x.must(0, pins + 1, false), 0);
                Check.due("torn, no total", x.must(0, -1, false), 0);
            }
        }
        NinepinAlley x = rolled("pins 3; frames 2; rolls 2;", 1, 1, 0, 2);
        torn(x, 0);
        int[] due = {0, 0, 1, 3, 7, 15, 0};
        for (int n = 0; n < due.length; n++) {
            Check.due("must(0, " + n + ")", x.must(0, n, false), due[n]);
            Check.due("must(1, " + n + "), the first roll of one that stands", x.must(1, n, false), due[n] == 0 ? 0 : 1);
        }
        int[] never = {MIN, MAX, -401, 450};
        for (int n : never) {
            Check.due("must(0, " + n + ", false)", x.must(0, n, false), 0);
            Check.due("must(0, " + n + ", true)", x.must(0, n, true), 15);
        }
        // all but 0 are worth as much
        NinepinAlley even = torn(rolled("pins 9; frames 1; rolls 1; worth 9 - down when down > 0;", 4), 0);
        Check.due("must(0, 9, false)", even.must(0, 9, false), 1022);
        Check.due("must(0, 0, false)", even.must(0, 0, false), 1);
        Check.due("must(0, 0, true)", even.must(0, 0, true), 1023);
        // asked for one frame, then for another
        torn(x, 1);
        Check.due("must(0, 6)", x.must(0, 6, false), 15);
        Check.due("must(1, 6)", x.must(1, 6, false), 15);
        Check.due("must(1, 0)", x.must(1, 0, false), 1);
        x.tear(1, false);
        Check.due("must(1) of one that stands", x.must(1, 0, true), 1);
        Check.due("must(0) then", x.must(0, 0, true), 15);
        Check.promise(20, "a FOUL takes none");
        x = rolled("pins 3; frames 1; rolls 2;", -2, 3);
        Check.due("must of a foul", x.must(0, 0, true), 1);
        Check.due("must of a foul, its total", x.must(0, 3, false), 1);
        Check.due("must of a foul, another total", x.must(0, 2, false), 0);
    }

    public static void main(String[] args) {
        framesThatAre();
        notWhole();
        tornOrNotSoAnyMore();
        fitsOfNoWhole();
        fitsOfTotals();
        fillsAsMany();
        fitsAtMost();
        mustOfNone();
        mustBits();
        Check.end();
    }
}
