import java.util.LinkedHashMap;
import java.util.Map;
import java.util.function.Consumer;
import java.util.function.Supplier;

/**
 * All that can be seen of an object from outside, so that a test can say that a call changed nothing else.
 * Looking takes the object's tape and game away, so each object is looked at once, when all else is done; it asks
 * 250 calls at the most of the 512 that an object has.
 */
final class State {
    private State() {
    }

    static Map<String, Long> of(NinepinAlley x) {
        Map<String, Long> all = new LinkedHashMap<>();
        game(x, all);
        sheet(x, all);
        torn(x, all);
        players(x, all);
        int last = x.octet(0) + 2;
        for (int k = -1; k <= last; k++) {
            put(all, "octet(" + k + ")", x.octet(k));
        }
        tape(x, all);
        return all;
    }

    private static void put(Map<String, Long> all, String call, long answer) {
        all.put(call, answer);
    }

    private static void game(NinepinAlley x, Map<String, Long> all) {
        for (int what = 0; what < 9; what++) {
            put(all, "has(" + what + ")", x.has(what));
        }
        put(all, "fault(0)", x.fault(0));
        put(all, "fault(1)", x.fault(1));
        int stand = (1 << x.has(0)) - 1;
        put(all, "leaves(all)", x.leaves(stand));
        put(all, "leaves(all but one)", x.leaves(stand >> 1));
        put(all, "fewest(all)", x.fewest(stand));
        put(all, "fewest(each second)", x.fewest(stand & 0b101010101));
    }

    private static void sheet(NinepinAlley x, Map<String, Long> all) {
        for (int what = 0; what < 6; what++) {
            put(all, "sheet(" + what + ")", x.sheet(what));
        }
        int rolls = x.sheet(0);
        for (int i = -1; i <= rolls; i++) {
            put(all, "rolled(" + i + ")", x.rolled(i));
        }
        int frames = x.has(1);
        for (int f = 0; f < frames; f++) {
            for (int what = 0; what < 4; what++) {
                put(all, "frame(" + f + ", " + what + ")", x.frame(f, what));
            }
            put(all, "points(" + f + ")", x.points(f));
        }
        put(all, "total()", x.total());
        put(all, "come(false)", x.come(false));
        put(all, "come(true)", x.come(true));
        put(all, "all ways", x.ways(-1000000, true));
        put(all, "ways to 9", x.ways(9, false));
        put(all, "needs(9, true)", x.needs(9, true));
    }

    private static void torn(NinepinAlley x, Map<String, Long> all) {
        put(all, "fits(0, true)", x.fits(0, true));
        put(all, "fits(9, false)", x.fits(9, false));
        int frames = x.has(1);
        for (int f = 0; f < frames; f++) {
            put(all, "must(" + f + ", 0, true)", x.must(f, 0, true));
        }
    }

    private static void players(NinepinAlley x, Map<String, Long> all) {
        for (int p = 0; p < 6; p++) {
            for (int what = 0; what < 6; what++) {
                put(all, "player(" + p + ", " + what + ")", x.player(p, what));
            }
            for (int q = 0; q < p; q++) {
                put(all, "meet(" + p + ", " + q + ")", x.meet(p, q));
                put(all, "meet(" + q + ", " + p + ")", x.meet(q, p));
            }
            put(all, "place(" + p + ")", x.place(p));
        }
    }

    /** How long the tape is, and what its bytes are as a game. */
    private static void tape(NinepinAlley x, Map<String, Long> all) {
        int size = 700;
        while (size > 680 && !x.end(size)) {
            size--;
        }
        if (size == 680) {
            size = x.feed(0, 0, 0, 0, 0) - 20;
            x.end(size);
        }
        put(all, "bytes on the tape", size);
        put(all, "the tape as a game", x.game());
        put(all, "its fault", x.fault(0));
        put(all, "its fault's place", x.fault(1));
        for (int what = 0; what < 9; what++) {
            put(all, "its has(" + what + ")", x.has(what));
        }
    }

    private static void compare(String call, Map<String, Long> got, Map<String, Long> want) {
        Check.due(call + ", as many answers", got.size(), want.size());
        want.forEach((key, n) -> Check.due(call + ": " + key, got.getOrDefault(key, Long.MIN_VALUE), n));
    }

    /** Two objects that are made unlike must look alike. */
    static void alike(String call, NinepinAlley one, NinepinAlley other) {
        compare(call, of(one), of(other));
    }

    /** The same, but for the faults of the latest games. */
    static void alikeButForFaults(String call, NinepinAlley one, NinepinAlley other) {
        Map<String, Long> got = of(one);
        Map<String, Long> want = of(other);
        for (String key : new String[] {"fault(0)", "fault(1)"}) {
            got.remove(key);
            want.remove(key);
        }
        compare(call, got, want);
    }

    /** A call on one of two objects of the same making must not be seen by anything behind it. */
    static void stays(String call, Supplier<NinepinAlley> making, Consumer<NinepinAlley> refused) {
        NinepinAlley x = making.get();
        refused.accept(x);
        alike(call + " changes nothing", x, making.get());
    }
}
