import java.math.BigInteger;
import java.nio.charset.StandardCharsets;
import java.util.Arrays;
import java.util.TreeMap;

/**
 * Promises 13 to 20 over all that clean frames can earn: 0 .. 3 by the 1st, the 2nd and the 3rd roll, in all ways
 * together. The games are small, and the model goes through each of their whole sheets, one by one.
 */
public final class EarnsBoundsTest {
    private final String laws;
    private NinepinAlley x;
    private Model m;

    private EarnsBoundsTest(int pins, int frames, int first, int second, int third) {
        laws = "pins " + pins + ";frames " + frames + ";rolls 3;foul 2;clean 1 earns " + first + ";clean 2 earns "
                + second + ";clean 3 earns " + third + ";worth frame*down when used<3;";
    }

    /** A new object and a new model with the same rolls. */
    private void begin(int... rolls) {
        x = Check.of(laws);
        m = new Model();
        byte[] text = laws.getBytes(StandardCharsets.ISO_8859_1);
        for (int i = 0; i < text.length; i += 20) {
            int[] n = new int[5];
            for (int k = 0; k < 20 && i + k < text.length; k++) {
                n[k / 4] |= text[i + k] << 24 - 8 * (k % 4);
            }
            m.feed(n[0], n[1], n[2], n[3], n[4]);
        }
        m.end(text.length);
        Check.due("the model's game", m.game(), 8);
        for (int n : rolls) {
            Check.due("roll(" + n + ")", x.roll(n), m.roll(n));
        }
    }

    private static long all(TreeMap<Integer, BigInteger> counts) {
        return counts.values().stream().mapToLong(BigInteger::longValueExact).sum();
    }

    private void lookAhead(int... rolls) {
        begin(rolls);
        String of = laws + " and " + Arrays.toString(rolls) + ": ";
        TreeMap<Integer, BigInteger> ways = m.eachWay();
        Check.promise(15, "The least or the greatest TOTAL TO COME");
        Check.due(of + "come(false)", x.come(false), ways.firstKey());
        Check.due(of + "come(true)", x.come(true), ways.lastKey());
        for (int n = ways.firstKey() - 1; n <= ways.lastKey() + 1; n++) {
            Check.promise(16, "How many ways TO COME have a TOTAL of n, or of n and more");
            Check.due(of + "ways(" + n + ", false)", x.ways(n, false), ways.getOrDefault(n, BigInteger.ZERO).longValue());
            Check.due(of + "ways(" + n + ", true)", x.ways(n, true), all(new TreeMap<>(ways.tailMap(n))));
        }
        needs(of, ways.firstKey() - 1, ways.lastKey() + 1);
    }

    private void needs(String of, int from, int to) {
        Check.promise(17, "the least number with which a TOTAL of the TARGET or more can still come (or must)");
        TreeMap<Integer, TreeMap<Integer, BigInteger>> then = new TreeMap<>();
        for (int n = 0; n <= 2; n++) {
            if (m.roll(n)) {
                then.put(n, m.eachWay());
                m.back();
            }
        }
        for (int target = from; target <= to; target++) {
            int can = -1;
            int must = -1;
            for (int n : then.descendingKeySet()) {
                can = then.get(n).lastKey() >= target ? n : can;
                must = then.get(n).firstKey() >= target ? n : must;
            }
            Check.due(of + "needs(" + target + ", false)", x.needs(target, false), can);
            Check.due(of + "needs(" + target + ", true)", x.needs(target, true), must);
        }
    }

    private void tear(int bits, int... rolls) {
        begin(rolls);
        int frames = x.has(1);
        for (int f = 0; f <= frames; f++) {
            boolean torn = (bits >> f & 1) == 1;
            Check.due("tear(" + f + ")", x.tear(f, torn), m.tear(f, torn));
        }
        String of = laws + " and " + Arrays.toString(rolls) + " torn " + bits + ": ";
        for (int f = 0; f < frames; f++) {
            TreeMap<Integer, Integer> first = new TreeMap<>();
            TreeMap<Integer, BigInteger> fits = m.eachFit(f, first);
            int any = 0;
            for (int n : fits.keySet()) {
                any |= first.get(n);
                Check.promise(20, "what its first ROLL takes in some of the FITS");
                Check.due(of + "must(" + f + ", " + n + ", false)", x.must(f, n, false), first.get(n));
                Check.promise(19, "How many FITS have a TOTAL of n");
                Check.due(of + "fits(" + n + ", false)", x.fits(n, false), fits.get(n).longValueExact());
            }
            Check.promise(20, "whatever TOTAL");
            Check.due(of + "must(" + f + ", 0, true)", x.must(f, 0, true), any);
            Check.promise(19, "whatever TOTAL");
            Check.due(of + "fits(0, true)", x.fits(0, true), all(fits));
        }
    }

    /** Rolls of a kind for each frame and each fill: as many frames clean by their first, second, third as it goes. */
    private int[] whole(int pins, int kinds) {
        int[][] frames = {{pins}, {0, pins}, {-2, 0, pins}, {0, 0, 0}, {pins - 1, 1}};
        int[] fills = {pins, 1, 0};
        begin();
        int[] rolls = new int[27];
        int n = 0;
        for (int f = 0; m.sheet(1) == f; f++) {
            for (int roll : frames[(kinds + f * kinds) % frames.length]) {
                if (m.sheet(1) == f && m.roll(roll)) {
                    rolls[n++] = roll;
                }
            }
        }
        for (int i = 0; m.sheet(4) == 0; i++) {
            int roll = Math.min(fills[(kinds + i) % fills.length], m.sheet(3));
            m.roll(roll);
            rolls[n++] = roll;
        }
        return Arrays.copyOf(rolls, n);
    }

    private void points(int... rolls) {
        begin();
        Check.promise(13, "POINTS, if it is over and all that it earns has been rolled");
        for (int n = 0; n <= rolls.length; n++) {
            for (int f = 0; f < 3; f++) {
                Check.due(laws + Arrays.toString(rolls) + " " + n + ": points(" + f + ")", x.points(f), m.points(f));
            }
            Check.due(laws + Arrays.toString(rolls) + " " + n + ": sheet(5)", x.sheet(5), m.sheet(5));
            Check.due(laws + Arrays.toString(rolls) + " " + n + ": total()", x.total(), m.total());
            if (n < rolls.length) {
                Check.due("roll(" + rolls[n] + ")", x.roll(rolls[n]), m.roll(rolls[n]));
            }
        }
    }

    private static void games(int pins, int frames, int first, int second, int third) {
        EarnsBoundsTest test = new EarnsBoundsTest(pins, frames, first, second, third);
        test.lookAhead();
        for (int kinds = 0; kinds < 5; kinds++) {
            int[] rolls = test.whole(pins, kinds);
            test.points(rolls);
            test.lookAhead(Arrays.copyOf(rolls, rolls.length / 2));
            test.lookAhead(Arrays.copyOf(rolls, rolls.length - 1));
            test.lookAhead(rolls);
            for (int bits = 0; bits < 2 << frames; bits++) {
                test.tear(bits, rolls);
            }
        }
    }

    public static void main(String[] args) {
        for (int earned = 0; earned < 64; earned++) {
            games(1, 3, earned & 3, earned >> 2 & 3, earned >> 4);
            games(2, 2, earned & 3, earned >> 2 & 3, earned >> 4);
        }
        Check.end();
    }
}
