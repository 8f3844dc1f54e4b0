import java.math.BigInteger;
import java.nio.charset.StandardCharsets;
import java.util.Map;
import java.util.Random;
import java.util.TreeMap;

/** All promises: runs of calls by chance (always the same ones), held against the model. */
public final class ModelTest {
    private final Random chance;
    private final NinepinAlley x = new NinepinAlley();
    private final Model m = new Model();
    private String run;

    private ModelTest(long seed) {
        chance = new Random(seed);
        run = "seed " + seed;
    }

    private int below(int n) {
        return chance.nextInt(n);
    }

    private void due(String call, long got, long want) {
        Check.due(run + ": " + call, got, want);
    }

    // ---- texts

    private String blank() {
        return below(4) == 0 ? "\n" : below(5) == 0 ? "  " : " ";
    }

    private String maybe() {
        return below(3) == 0 ? blank() : "";
    }

    private String part(int depth) {
        int kind = below(depth > 0 ? 12 : 8);
        String[] names = {"frame", "down", "used", "fouls", "mean", "games"};
        if (kind < 6) {
            return names[below(6)];
        }
        if (kind < 8) {
            return String.valueOf(below(6) == 0 ? below(10000) : below(12));
        }
        if (kind < 10) {
            return "(" + maybe() + sum(depth - 1) + maybe() + ")";
        }
        return (kind == 10 ? "min" : "max") + maybe() + "(" + sum(depth - 1) + maybe() + "," + maybe()
                + sum(depth - 1) + ")";
    }

    private String sum(int depth) {
        StringBuilder s = new StringBuilder(part(depth));
        for (int n = below(3); n > 0; n--) {
            s.append(maybe()).append("+-*/".charAt(below(4))).append(maybe()).append(part(depth));
        }
        return s.toString();
    }

    private String fact(int depth) {
        int kind = below(depth > 0 ? 8 : 5);
        if (kind == 0) {
            return "all";
        }
        if (kind < 5) {
            return sum(depth) + maybe() + "<>=".charAt(below(3)) + maybe() + sum(depth);
        }
        return kind < 7 ? "not" + blank() + fact(depth - 1) : "[" + maybe() + test(depth - 1) + maybe() + "]";
    }

    private String test(int depth) {
        StringBuilder s = new StringBuilder(fact(depth));
        for (int n = below(3); n > 0; n--) {
            s.append(blank()).append(below(2) == 0 ? "and" : "or").append(blank()).append(fact(depth));
        }
        return s.toString();
    }

    private String statement(int most, int depth) {
        switch (below(12)) {
            case 0:
                return "pins " + (1 + below(Math.min(most, 9)));
            case 1:
                return "frames" + blank() + (1 + below(Math.min(most, 8)));
            case 2:
                return "rolls 0" + (1 + below(3));
            case 3:
                return "foul " + below(11);
            case 4:
                return "handicap" + blank() + sum(depth);
            case 5:
            case 6:
            case 7:
                return "worth " + sum(depth) + blank() + "when" + blank() + test(depth);
            case 8:
            case 9:
                return "clean " + (1 + below(3)) + " earns " + below(4);
            default:
                int pin = below(9);
                return "joins " + pin + blank() + (pin + 1 + below(8)) % 9;
        }
    }

    private String text(int most, int statements, int depth) {
        StringBuilder s = new StringBuilder("pins " + (1 + below(most)) + ";frames " + (1 + below(Math.min(most, 8))) + ";");
        s.append("rolls ").append(1 + below(3)).append(";");
        for (int n = below(statements); n > 0; n--) {
            String next = maybe() + statement(most, depth) + maybe() + ";" + maybe();
            if (s.length() + next.length() <= 700) {
                s.append(next);
            }
        }
        return s.toString();
    }

    /** A text with some bytes put in, taken out or made others. */
    private String spoilt(String text) {
        StringBuilder s = new StringBuilder(text);
        String[] likely = {"(", "[", "not ", ";", "0", "9", " ", "all", "x", "\n", "min(", "pins 3;", ",", "12345", "A", "1"};
        for (int n = 1 + below(2); n > 0; n--) {
            int at = below(s.length() + 1);
            int kind = below(5);
            if (kind == 0) {
                s.setLength(at);
            } else if (kind == 1 && at < s.length()) {
                s.deleteCharAt(at);
            } else if (kind == 2 && at < s.length()) {
                s.setCharAt(at, (char) below(256));
            } else if (kind == 3) {
                s.insert(at, likely[below(likely.length)].repeat(1 + below(8)));
            } else {
                s.insert(at, likely[below(likely.length)]);
            }
        }
        s.setLength(Math.min(s.length(), 700));
        return s.toString();
    }

    private void tape(byte[] bytes) {
        due("end(0)", x.end(0) ? 1 : 0, m.end(0) ? 1 : 0);
        for (int i = 0; i < bytes.length; i += 20) {
            int[] n = new int[5];
            for (int k = 0; k < 20 && i + k < bytes.length; k++) {
                n[k / 4] |= (bytes[i + k] & 255) << (24 - 8 * (k % 4));
            }
            due("feed", x.feed(n[0], n[1], n[2], n[3], n[4]), m.feed(n[0], n[1], n[2], n[3], n[4]));
        }
        due("end", x.end(bytes.length) ? 1 : 0, m.end(bytes.length) ? 1 : 0);
    }

    private void game(String text) {
        tape(text.getBytes(StandardCharsets.ISO_8859_1));
        String told = "game of " + text;
        due(told, x.game(), m.game());
        due("fault(0) of " + told, x.fault(0), m.fault(0));
        due("fault(1) of " + told, x.fault(1), m.fault(1));
        if (m.fault(0) == 0) {
            run = run.replaceAll("\\|.*", "") + "|" + text.replace('\n', '~');
        }
        for (int what = -1; what < 11; what++) {
            due("has(" + what + ")", x.has(what), m.has(what));
        }
    }

    // ---- calls

    private int odd() {
        int[] some = {-3, -2, -1, 0, 1, 2, 5, 6, 9, 10, 511, 512, 700, 701, Integer.MAX_VALUE, Integer.MIN_VALUE};
        return some[below(some.length)];
    }

    private int near(int n) {
        return below(12) == 0 ? odd() : below(n + 2) - 1;
    }

    private int someRoll() {
        int stand = m.sheet(3);
        int kind = below(10);
        return kind == 0 ? -2 : kind == 1 ? odd() : kind < 5 ? stand : below(stand + 1);
    }

    private int someTotal() {
        return below(20) == 0 ? odd() : below(5) == 0 ? below(900) - 420
                : m.come(false) + below(Math.max(1, m.come(true) - m.come(false) + 3)) - 1;
    }

    private void sheetCalls() {
        for (int what = -1; what < 7; what++) {
            due("sheet(" + what + ")", x.sheet(what), m.sheet(what));
        }
        int f = near(9);
        int what = near(4);
        due("frame(" + f + ", " + what + ")", x.frame(f, what), m.frame(f, what));
        due("points(" + f + ")", x.points(f), m.points(f));
        due("total()", x.total(), m.total());
        int i = near(27);
        due("rolled(" + i + ")", x.rolled(i), m.rolled(i));
    }

    private void change() {
        int n = someRoll();
        switch (below(16)) {
            case 0:
                due("back()", x.back() ? 1 : 0, m.back() ? 1 : 0);
                break;
            case 1:
                if (below(4) == 0) {
                    due("clear()", x.clear(), m.clear());
                }
                break;
            case 2:
                images();
                break;
            default:
                due("roll(" + n + ")", x.roll(n) ? 1 : 0, m.roll(n) ? 1 : 0);
        }
        sheetCalls();
    }

    private void fillUp(boolean fouls) {
        for (int n = 0; n < 30 && m.sheet(4) == 0; n++) {
            int roll = someRoll();
            roll = roll == -2 && !fouls ? 0 : roll;
            due("roll(" + roll + ")", x.roll(roll) ? 1 : 0, m.roll(roll) ? 1 : 0);
        }
        sheetCalls();
    }

    private void ahead() {
        boolean most = below(2) == 0;
        due("come(" + most + ")", x.come(most), m.come(most));
        int n = someTotal();
        due("ways(" + n + ", " + most + ")", x.ways(n, most), m.ways(n, most));
        due("needs(" + n + ", " + most + ")", x.needs(n, most), m.needs(n, most));
    }

    private void tearing() {
        int f = near(9);
        boolean torn = below(3) > 0;
        due("tear(" + f + ", " + torn + ")", x.tear(f, torn) ? 1 : 0, m.tear(f, torn) ? 1 : 0);
        int n = someTotal();
        boolean any = below(3) == 0;
        due("fits(" + n + ", " + any + ")", x.fits(n, any), m.fits(n, any));
        due("must(" + f + ", " + n + ", " + any + ")", x.must(f, n, any), m.must(f, n, any));
        f = near(9);
        due("must(" + f + ", " + n + ", " + any + ")", x.must(f, n, any), m.must(f, n, any));
    }

    private void pins() {
        int limit = 1 << m.has(0);
        int stand = below(10) == 0 ? odd() : below(limit + limit / 8);
        int fallen = below(10) == 0 ? odd() : below(3) == 0 ? below(limit) : stand & below(limit);
        due("falls(" + stand + ", " + fallen + ")", x.falls(stand, fallen), m.falls(stand, fallen));
        due("split(" + stand + ")", x.split(stand), m.split(stand));
        due("leaves(" + stand + ")", x.leaves(stand), m.leaves(stand));
        if (below(8) == 0) {
            due("fewest(" + stand + ")", x.fewest(stand), m.fewest(stand));
        }
    }

    private void players() {
        int p = near(6);
        int q = near(6);
        int what = near(6);
        due("keep(" + p + ")", x.keep(p), m.keep(p));
        due("player(" + p + ", " + what + ")", x.player(p, what), m.player(p, what));
        due("meet(" + p + ", " + q + ")", x.meet(p, q), m.meet(p, q));
        due("place(" + q + ")", x.place(q), m.place(q));
    }

    private void images() {
        int size = m.image();
        due("image()", x.image(), size);
        byte[] bytes = new byte[size];
        for (int k = -1; k <= size; k++) {
            due("octet(" + k + ")", x.octet(k), m.octet(k));
            if (k >= 0 && k < size) {
                bytes[k] = (byte) m.octet(k);
            }
        }
        if (below(2) == 0) {
            due("clear()", x.clear(), m.clear());
        }
        if (below(2) == 0) {
            bytes[below(size)] = (byte) below(256);
        }
        if (below(3) == 0 && size > 2) {
            // another roll, with the last byte that goes with it
            bytes[1 + below(size - 2)] = (byte) (below(8) == 0 ? 200 : below(10));
            int check = 11;
            for (int k = 0; k < size - 1; k++) {
                check = (7 * check + (bytes[k] & 255)) % 239;
            }
            bytes[size - 1] = (byte) check;
        }
        tape(bytes);
        due("on()", x.on() ? 1 : 0, m.on() ? 1 : 0);
        sheetCalls();
    }

    private void calls(int most, int turns) {
        game(text(most, 10, 3));
        for (int n = 0; n < turns; n++) {
            switch (below(12)) {
                case 0:
                    players();
                    break;
                case 1:
                    pins();
                    break;
                case 2:
                    images();
                    break;
                case 3:
                    ahead();
                    break;
                case 4:
                    fillUp(below(2) == 0);
                    break;
                case 5:
                    tearing();
                    break;
                case 6:
                    if (below(6) == 0) {
                        game(below(2) == 0 ? text(most, 8, 2) : spoilt(text(most, 8, 2)));
                    }
                    break;
                default:
                    change();
            }
        }
    }

    private void texts() {
        for (int n = 0; n < 40; n++) {
            String text = text(9, below(5) == 0 ? 32 : 8, below(5) == 0 ? 9 : 3);
            text = text.length() > 700 ? text.substring(0, 700) : text;
            game(below(3) == 0 ? text : spoilt(text));
        }
    }

    /** Small games: what is to come and what fits, by each sheet there is. */
    private void eachSheet() {
        game("pins " + (1 + below(3)) + "; frames " + (1 + below(3)) + "; rolls " + (1 + below(2)) + ";"
                + "clean 1 earns " + below(4) + "; clean 2 earns " + below(4) + "; foul " + below(4) + ";"
                + "worth " + sum(1) + " when " + test(1) + "; worth " + sum(1) + " when " + test(1) + ";");
        for (int n = below(4); n > 0; n--) {
            change();
        }
        TreeMap<Integer, BigInteger> ways = m.eachWay();
        due("come(false)", x.come(false), ways.firstKey());
        due("come(true)", x.come(true), ways.lastKey());
        long more = 0;
        for (int t = ways.lastKey() + 1; t >= ways.firstKey() - 1; t--) {
            long n = ways.getOrDefault(t, BigInteger.ZERO).longValueExact();
            more += n;
            due("ways(" + t + ", false)", x.ways(t, false), n);
            due("ways(" + t + ", true)", x.ways(t, true), more);
        }
        fillUp(true);
        for (int f = 0; f <= m.has(1); f++) {
            if (below(2) == 0) {
                x.tear(f, true);
                m.tear(f, true);
            }
        }
        int f = below(m.has(1));
        TreeMap<Integer, Integer> bits = new TreeMap<>();
        TreeMap<Integer, BigInteger> fits = m.eachFit(f, bits);
        long all = 0;
        int any = 0;
        for (Map.Entry<Integer, BigInteger> e : fits.entrySet()) {
            int t = e.getKey();
            all += e.getValue().longValueExact();
            any |= bits.get(t);
            due("fits(" + t + ", false)", x.fits(t, false), e.getValue().longValueExact());
            due("must(" + f + ", " + t + ", false)", x.must(f, t, false), bits.get(t));
        }
        due("fits(0, true)", x.fits(0, true), all);
        due("must(" + f + ", 0, true)", x.must(f, 0, true), any);
    }

    public static void main(String[] args) {
        int times = args.length > 0 ? Integer.parseInt(args[0]) : 1;
        for (int seed = 0; seed < 60 * times; seed++) {
            new ModelTest(seed).texts();
        }
        for (int seed = 0; seed < 300 * times; seed++) {
            new ModelTest(1000000 + seed).calls(4, 120);
        }
        for (int seed = 0; seed < 60 * times; seed++) {
            new ModelTest(2000000 + seed).calls(9, 60);
        }
        for (int seed = 0; seed < 200 * times; seed++) {
            new ModelTest(3000000 + seed).eachSheet();
        }
        Check.end();
    }
}
