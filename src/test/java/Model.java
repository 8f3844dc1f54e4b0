import java.math.BigInteger;
import java.util.ArrayDeque;
import java.util.ArrayList;
import java.util.Deque;
import java.util.HashMap;
import java.util.List;
import java.util.Map;
import java.util.TreeMap;

/**
 * The document once more, in another way: lists, maps and big numbers, texts read by a stack of what is due
 * and reckoned from their words each time. The tests hold the class against it.
 */
final class Model {
    private static final int NOT_KNOWN = -1000000;

    private record Token(int place, String text) {
    }

    private record Worth(List<Token> sum, List<Token> test) {
    }

    /** A text of laws; fault 0 if it is a game. */
    private static final class Game {
        int fault = 0;
        int place = -1;
        int statements = 0;
        int pins = 9;
        int frames = 6;
        int rolls = 2;
        int foul = 0;
        final int[] earns = new int[4];
        final List<Worth> worths = new ArrayList<>();
        List<Token> handicap = List.of();
        final boolean[][] joined = new boolean[9][9];
    }

    private final StringBuilder tape = new StringBuilder();
    private Game game = new Game();
    private Game latest = game;
    private List<Integer> rolls = new ArrayList<>();
    private boolean[] torn = new boolean[9];
    private List<List<Integer>> players = new ArrayList<>();
    private List<Integer> image = new ArrayList<>();

    Model() {
        noPlayers();
    }

    private void noPlayers() {
        players.clear();
        for (int p = 0; p < 6; p++) {
            players.add(new ArrayList<>());
        }
    }

    int feed(int a, int b, int c, int d, int e) {
        if (tape.length() > 680) {
            return -1;
        }
        for (int n : new int[] {a, b, c, d, e}) {
            tape.append((char) (n >>> 24)).append((char) (n >> 16 & 255));
            tape.append((char) (n >> 8 & 255)).append((char) (n & 255));
        }
        return tape.length();
    }

    boolean end(int n) {
        if (n < 0 || n > tape.length()) {
            return false;
        }
        tape.setLength(n);
        return true;
    }

    // ---- games

    int game() {
        latest = read(tape.toString());
        tape.setLength(0);
        if (latest.fault != 0) {
            return -1;
        }
        game = latest;
        rolls = new ArrayList<>();
        torn = new boolean[9];
        noPlayers();
        return game.statements;
    }

    int fault(int what) {
        return what == 0 ? latest.fault : what == 1 ? latest.place : -1;
    }

    private static List<Token> tokens(String text) {
        List<Token> all = new ArrayList<>();
        int i = 0;
        while (i < text.length()) {
            char c = text.charAt(i);
            int from = i++;
            if (c == ' ' || c == '\n') {
                continue;
            }
            boolean word = c >= 'a' && c <= 'z';
            boolean number = c >= '0' && c <= '9';
            while (i < text.length() && (word && text.charAt(i) >= 'a' && text.charAt(i) <= 'z'
                    || number && text.charAt(i) >= '0' && text.charAt(i) <= '9')) {
                i++;
            }
            all.add(new Token(from, text.substring(from, i)));
        }
        all.add(new Token(text.length(), ""));
        return all;
    }

    private static boolean isNumber(String t) {
        return !t.isEmpty() && Character.isDigit(t.charAt(0)) && t.charAt(0) < 128;
    }

    private static boolean isWordOrNumber(String t) {
        return !t.isEmpty() && t.charAt(0) < 128 && Character.isLetterOrDigit(t.charAt(0));
    }

    /** What is due is a stack of signs of the grammar; ! closes what is open. */
    private static Game read(String text) {
        Game g = new Game();
        List<Token> all = tokens(text);
        Deque<String> due = new ArrayDeque<>();
        due.push("GAME");
        int open = 0;
        int i = 0;
        while (!due.isEmpty()) {
            Token t = all.get(i);
            String top = due.pop();
            boolean beside = i > 0 && isWordOrNumber(t.text) && isWordOrNumber(all.get(i - 1).text)
                    && all.get(i - 1).place + all.get(i - 1).text.length() == t.place;
            String[] then = expand(top, t.text);
            if (top.equals("!")) {
                open--;
                continue;
            }
            if (top.equals("GAME") && g.statements == 30 && !t.text.isEmpty()) {
                return broken(g, 5, t.place);
            }
            if (then == null || beside) {
                return broken(g, 1, t.place);
            }
            boolean number = top.startsWith("N") || top.equals("PART") && isNumber(t.text);
            if (number && t.text.length() > 4) {
                return broken(g, 1, t.place + 4);
            }
            if (top.startsWith("N")) {
                String[] bounds = top.split(":");
                int n = Integer.parseInt(t.text);
                boolean same = bounds[0].equals("Nunlike") && Integer.parseInt(all.get(i - 1).text) == n;
                if (n < Integer.parseInt(bounds[1]) || n > Integer.parseInt(bounds[2]) || same) {
                    return broken(g, 2, t.place);
                }
            }
            if (top.equals("FACT") && "not [".contains(t.text) || top.equals("PART") && t.text.equals("(")
                    || top.equals("(")) {
                open++;
                if (open == 7) {
                    return broken(g, 4, t.place);
                }
            }
            for (int k = then.length - 1; k >= 0; k--) {
                due.push(then[k]);
            }
            if (takesToken(top, t.text)) {
                i++;
            }
            if (top.equals(";")) {
                g.statements++;
            }
        }
        fill(g, all);
        return g;
    }

    private static Game broken(Game g, int fault, int place) {
        g.fault = fault;
        g.place = place;
        return g;
    }

    private static boolean takesToken(String top, String t) {
        switch (top) {
            case "GAME":
            case "TEST":
            case "BOTH":
            case "SUM":
            case "PRODUCT":
                return false;
            case "STATEMENT":
            case "PART":
            case "SIGN":
                return true;
            case "FACT":
                return t.equals("not") || t.equals("[") || t.equals("all");
            case "ORS":
                return t.equals("or");
            case "ANDS":
                return t.equals("and");
            case "SUMS":
                return t.equals("+") || t.equals("-");
            case "PRODUCTS":
                return t.equals("*") || t.equals("/");
            default:
                return true;
        }
    }

    private static String[] of(String... all) {
        return all;
    }

    private static String[] expand(String top, String t) {
        switch (top) {
            case "!":
                return of();
            case "GAME":
                return t.isEmpty() ? of() : of("STATEMENT", ";", "GAME");
            case "STATEMENT":
                return statement(t);
            case "TEST":
                return of("BOTH", "ORS");
            case "ORS":
                return t.equals("or") ? of("BOTH", "ORS") : of();
            case "BOTH":
                return of("FACT", "ANDS");
            case "ANDS":
                return t.equals("and") ? of("FACT", "ANDS") : of();
            case "FACT":
                return t.equals("not") ? of("FACT", "!") : t.equals("[") ? of("TEST", "]", "!")
                        : t.equals("all") ? of() : of("SUM", "SIGN", "SUM");
            case "SIGN":
                return t.equals("<") || t.equals(">") || t.equals("=") ? of() : null;
            case "SUM":
                return of("PRODUCT", "SUMS");
            case "SUMS":
                return t.equals("+") || t.equals("-") ? of("PRODUCT", "SUMS") : of();
            case "PRODUCT":
                return of("PART", "PRODUCTS");
            case "PRODUCTS":
                return t.equals("*") || t.equals("/") ? of("PART", "PRODUCTS") : of();
            case "PART":
                return part(t);
            default:
                return top.startsWith("N") ? isNumber(t) ? of() : null : top.equals(t) ? of() : null;
        }
    }

    private static String[] statement(String t) {
        switch (t) {
            case "pins":
                return of("N:1:9");
            case "frames":
                return of("N:1:8");
            case "rolls":
                return of("N:1:3");
            case "clean":
                return of("N:1:3", "earns", "N:0:3");
            case "foul":
                return of("N:0:10");
            case "worth":
                return of("SUM", "when", "TEST");
            case "handicap":
                return of("SUM");
            case "joins":
                return of("N:0:8", "Nunlike:0:8");
            default:
                return null;
        }
    }

    private static String[] part(String t) {
        switch (t) {
            case "(":
                return of("SUM", ")", "!");
            case "min":
            case "max":
                return of("(", "SUM", ",", "SUM", ")", "!");
            case "frame":
            case "down":
            case "used":
            case "fouls":
            case "mean":
            case "games":
                return of();
            default:
                return isNumber(t) ? of() : null;
        }
    }

    private static void fill(Game g, List<Token> all) {
        int from = 0;
        for (int i = 0; i < all.size(); i++) {
            if (all.get(i).text.equals(";")) {
                List<Token> s = all.subList(from, i);
                tell(g, s);
                from = i + 1;
            }
        }
    }

    private static int number(List<Token> s, int i) {
        return Integer.parseInt(s.get(i).text);
    }

    private static void tell(Game g, List<Token> s) {
        switch (s.get(0).text) {
            case "pins" -> g.pins = number(s, 1);
            case "frames" -> g.frames = number(s, 1);
            case "rolls" -> g.rolls = number(s, 1);
            case "foul" -> g.foul = number(s, 1);
            case "clean" -> g.earns[number(s, 1)] = number(s, 3);
            case "handicap" -> g.handicap = s.subList(1, s.size());
            case "joins" -> {
                g.joined[number(s, 1)][number(s, 2)] = true;
                g.joined[number(s, 2)][number(s, 1)] = true;
            }
            default -> {
                int when = 0;
                while (!s.get(when).text.equals("when")) {
                    when++;
                }
                g.worths.add(new Worth(s.subList(1, when), s.subList(when + 1, s.size())));
            }
        }
    }

    /** Reckons a sum or a test from its words. */
    private static final class Reckoner {
        final List<Token> words;
        final Map<String, Long> facts;
        int at = 0;

        Reckoner(List<Token> words, Map<String, Long> facts) {
            this.words = words;
            this.facts = facts;
        }

        String word() {
            return at < words.size() ? words.get(at).text : "";
        }

        boolean test() {
            boolean holds = both();
            while (word().equals("or")) {
                at++;
                holds = both() | holds;
            }
            return holds;
        }

        boolean both() {
            boolean holds = fact();
            while (word().equals("and")) {
                at++;
                holds = fact() & holds;
            }
            return holds;
        }

        boolean fact() {
            switch (word()) {
                case "not":
                    at++;
                    return !fact();
                case "[":
                    at++;
                    boolean inner = test();
                    at++;
                    return inner;
                case "all":
                    at++;
                    return true;
                default:
                    long a = sum();
                    String sign = words.get(at++).text;
                    long b = sum();
                    return sign.equals("<") ? a < b : sign.equals(">") ? a > b : a == b;
            }
        }

        static long limit(long n) {
            return n > 1000000 ? 1000000 : n < -1000000 ? -1000000 : n;
        }

        long sum() {
            long n = product();
            while (word().equals("+") || word().equals("-")) {
                boolean plus = words.get(at++).text.equals("+");
                long m = product();
                n = limit(plus ? n + m : n - m);
            }
            return n;
        }

        long product() {
            long n = part();
            while (word().equals("*") || word().equals("/")) {
                boolean times = words.get(at++).text.equals("*");
                long m = part();
                n = times ? limit(n * m) : m == 0 ? 0 : BigInteger.valueOf(n).subtract(
                        BigInteger.valueOf(m > 0 ? n : -n).mod(BigInteger.valueOf(Math.abs(m)))
                                .multiply(BigInteger.valueOf(Long.signum(m)))).longValue() / m;
            }
            return n;
        }

        long part() {
            String w = words.get(at++).text;
            switch (w) {
                case "(":
                    long inner = sum();
                    at++;
                    return inner;
                case "min":
                case "max":
                    at++;
                    long a = sum();
                    at++;
                    long b = sum();
                    at++;
                    return w.equals("min") == a < b ? a : b;
                default:
                    return isNumber(w) ? Long.parseLong(w) : facts.getOrDefault(w, 0L);
            }
        }
    }

    private int worth(int f, long down, long used, long fouls) {
        Map<String, Long> facts = Map.of("frame", f + 1L, "down", down, "used", used, "fouls", fouls);
        for (Worth w : game.worths) {
            if (new Reckoner(w.test, facts).test()) {
                long n = new Reckoner(w.sum, facts).sum();
                return (int) (n > 20 ? 20 : n < -20 ? -20 : n);
            }
        }
        return 0;
    }

    int has(int what) {
        int pairs = 0;
        for (int a = 0; a < 9; a++) {
            for (int b = 0; b < a; b++) {
                pairs += game.joined[a][b] ? 1 : 0;
            }
        }
        int[] all = {game.pins, game.frames, game.rolls, game.foul, game.earns[1], game.earns[2], game.earns[3],
            game.worths.size(), pairs};
        return what < 0 || what >= all.length ? -1 : all[what];
    }

    // ---- the sheet: its frames are found anew from its rolls each time

    private static int take(int n) {
        return n == -2 ? 0 : n;
    }

    private static int down(List<Integer> some) {
        int sum = 0;
        for (int n : some) {
            sum += take(n);
        }
        return sum;
    }

    private boolean over(List<Integer> f) {
        return f.size() == game.rolls || down(f) == game.pins;
    }

    /** The frames that have a roll, and the fills as one more behind the last. */
    private List<List<Integer>> frames(List<Integer> of) {
        List<List<Integer>> all = new ArrayList<>();
        for (int n : of) {
            int last = all.size() - 1;
            if (last < 0 || last < game.frames && over(all.get(last))) {
                all.add(new ArrayList<>());
                last++;
            }
            all.get(last).add(n);
        }
        return all;
    }

    private int earned(List<Integer> f) {
        return down(f) == game.pins ? game.earns[f.size()] : 0;
    }

    private boolean framesOver(List<List<Integer>> all) {
        return all.size() >= game.frames && over(all.get(game.frames - 1));
    }

    private int fillsEarned(List<List<Integer>> all) {
        if (!framesOver(all)) {
            return 0;
        }
        int most = 0;
        int behind = 0;
        for (int f = game.frames - 1; f >= 0; f--) {
            most = Math.max(most, earned(all.get(f)) - behind);
            behind += all.get(f).size();
        }
        return most;
    }

    private boolean whole(List<Integer> of) {
        List<List<Integer>> all = frames(of);
        int fills = all.size() > game.frames ? all.get(game.frames).size() : 0;
        return framesOver(all) && fills >= fillsEarned(all);
    }

    private int standing(List<Integer> of) {
        List<List<Integer>> all = frames(of);
        if (all.size() > game.frames) {
            int stand = game.pins;
            for (int n : all.get(game.frames)) {
                stand = stand == take(n) ? game.pins : stand - take(n);
            }
            return stand;
        }
        return all.isEmpty() || over(all.get(all.size() - 1)) ? game.pins : game.pins - down(all.get(all.size() - 1));
    }

    private boolean canRoll(List<Integer> of, int n) {
        return !whole(of) && (n == -2 || n >= 0 && n <= standing(of));
    }

    boolean roll(int n) {
        if (!canRoll(rolls, n)) {
            return false;
        }
        rolls.add(n);
        return true;
    }

    boolean back() {
        torn = new boolean[9];
        if (rolls.isEmpty()) {
            return false;
        }
        rolls.remove(rolls.size() - 1);
        return true;
    }

    int clear() {
        int had = rolls.size();
        torn = new boolean[9];
        rolls.clear();
        return had;
    }

    private int nextFrame() {
        List<List<Integer>> all = frames(rolls);
        int n = all.size();
        return n == 0 ? 0 : n - 1 < game.frames && over(all.get(n - 1)) ? n : n - 1;
    }

    int sheet(int what) {
        List<List<Integer>> all = frames(rolls);
        boolean whole = whole(rolls);
        int next = nextFrame();
        switch (what) {
            case 0:
                return rolls.size();
            case 1:
                return whole ? -1 : next;
            case 2:
                return whole || next >= all.size() ? 0 : all.get(next).size();
            case 3:
                return whole ? 0 : standing(rolls);
            case 4:
                return whole ? 1 : 0;
            case 5:
                return fillsEarned(all);
            default:
                return -1;
        }
    }

    int rolled(int i) {
        return i < 0 || i >= rolls.size() ? -1 : rolls.get(i);
    }

    private static int fouls(List<Integer> f) {
        int n = 0;
        for (int r : f) {
            n += r == -2 ? 1 : 0;
        }
        return n;
    }

    int frame(int f, int what) {
        List<List<Integer>> all = frames(rolls);
        if (f < 0 || f >= game.frames || f >= all.size() || what < 0 || what > 3) {
            return -1;
        }
        List<Integer> one = all.get(f);
        int[] answers = {down(one), one.size(), down(one) == game.pins ? one.size() : 0, fouls(one)};
        return answers[what];
    }

    private int points(List<Integer> of, int f) {
        List<List<Integer>> all = frames(of);
        if (f < 0 || f >= game.frames || f >= all.size() || !over(all.get(f))) {
            return NOT_KNOWN;
        }
        int behind = 0;
        for (int k = 0; k <= f; k++) {
            behind += all.get(k).size();
        }
        List<Integer> one = all.get(f);
        int earned = earned(one);
        if (behind + earned > of.size()) {
            return NOT_KNOWN;
        }
        return down(one) + down(of.subList(behind, behind + earned))
                + worth(f, down(one), one.size(), fouls(one)) - game.foul * fouls(one);
    }

    int points(int f) {
        return points(rolls, f);
    }

    private int total(List<Integer> of) {
        int sum = 0;
        for (int f = 0; f < game.frames; f++) {
            sum += points(of, f);
        }
        return sum;
    }

    int total() {
        return whole(rolls) ? total(rolls) : NOT_KNOWN;
    }

    // ---- whole sheets of which some is given, roll by roll, each kind of rest once

    private final class Rest {
        final List<List<Integer>> given = new ArrayList<>();
        boolean fillsAsGiven = false;
        final Map<String, TreeMap<Integer, BigInteger>> known = new HashMap<>();

        TreeMap<Integer, BigInteger> all() {
            return rest(0, 0, game.pins, 0, new ArrayList<>());
        }

        List<Integer> takes(int f, int used, int stand) {
            List<Integer> takes = new ArrayList<>();
            if (f < given.size() && used < given.get(f).size()) {
                takes.add(given.get(f).get(used));
            } else if (f < game.frames || !fillsAsGiven) {
                for (int n = 0; n <= stand; n++) {
                    takes.add(n);
                }
            }
            return takes;
        }

        TreeMap<Integer, BigInteger> rest(int f, int used, int stand, int fouls, List<Integer> earning) {
            String key = f + " " + used + " " + stand + " " + fouls + " " + earning;
            TreeMap<Integer, BigInteger> found = known.get(key);
            if (found == null) {
                found = f < game.frames ? frame(f, used, stand, fouls, earning) : fills(used, stand, earning);
                known.put(key, found);
            }
            return found;
        }

        TreeMap<Integer, BigInteger> frame(int f, int used, int stand, int fouls, List<Integer> earning) {
            TreeMap<Integer, BigInteger> sum = new TreeMap<>();
            if (stand == 0 || used == game.rolls) {
                List<Integer> then = new ArrayList<>(earning);
                if (stand == 0 && game.earns[used] > 0) {
                    then.add(game.earns[used]);
                }
                add(sum, rest(f + 1, 0, game.pins, 0, then),
                        worth(f, game.pins - stand, used, fouls) - fouls * game.foul);
                return sum;
            }
            for (int n : takes(f, used, stand)) {
                add(sum, rest(f, used + 1, stand - take(n), fouls + (n == -2 ? 1 : 0), less(earning)),
                        take(n) * (1 + earning.size()));
            }
            return sum;
        }

        TreeMap<Integer, BigInteger> fills(int used, int stand, List<Integer> earning) {
            TreeMap<Integer, BigInteger> sum = new TreeMap<>();
            if (earning.isEmpty()) {
                boolean asMany = given.size() <= game.frames ? used == 0 : used == given.get(game.frames).size();
                if (!fillsAsGiven || asMany) {
                    sum.put(0, BigInteger.ONE);
                }
                return sum;
            }
            for (int n : takes(game.frames, used, stand)) {
                int left = stand == take(n) ? game.pins : stand - take(n);
                add(sum, rest(game.frames, used + 1, left, 0, less(earning)), take(n) * earning.size());
            }
            return sum;
        }

        List<Integer> less(List<Integer> earning) {
            List<Integer> left = new ArrayList<>();
            for (int n : earning) {
                if (n > 1) {
                    left.add(n - 1);
                }
            }
            return left;
        }

        void add(TreeMap<Integer, BigInteger> to, TreeMap<Integer, BigInteger> some, int gain) {
            some.forEach((t, n) -> to.merge(t + gain, n, BigInteger::add));
        }
    }

    private TreeMap<Integer, BigInteger> ahead(List<Integer> of) {
        Rest rest = new Rest();
        rest.given.addAll(frames(of));
        return rest.all();
    }

    private static long most(BigInteger n) {
        return n.min(BigInteger.TEN.pow(18)).longValueExact();
    }

    int come(boolean most) {
        return most ? ahead(rolls).lastKey() : ahead(rolls).firstKey();
    }

    long ways(int n, boolean more) {
        TreeMap<Integer, BigInteger> all = ahead(rolls);
        if (!more) {
            return most(all.getOrDefault(n, BigInteger.ZERO));
        }
        return most(all.tailMap(n, true).values().stream().reduce(BigInteger.ZERO, BigInteger::add));
    }

    int needs(int target, boolean sure) {
        for (int n = 0; n <= 9; n++) {
            if (canRoll(rolls, n)) {
                List<Integer> then = new ArrayList<>(rolls);
                then.add(n);
                TreeMap<Integer, BigInteger> all = ahead(then);
                if ((sure ? all.firstKey() : all.lastKey()) >= target) {
                    return n;
                }
            }
        }
        return -1;
    }

    boolean tear(int f, boolean on) {
        if (f < 0 || f > game.frames || !whole(rolls)) {
            return false;
        }
        torn[f] = on;
        return true;
    }

    private Rest fitting() {
        Rest rest = new Rest();
        List<List<Integer>> all = frames(rolls);
        for (int f = 0; f <= game.frames; f++) {
            rest.given.add(torn[f] || f >= all.size() ? new ArrayList<>() : all.get(f));
        }
        rest.fillsAsGiven = !torn[game.frames];
        return rest;
    }

    long fits(int n, boolean any) {
        if (!whole(rolls)) {
            return -1;
        }
        TreeMap<Integer, BigInteger> all = fitting().all();
        return most(any ? all.values().stream().reduce(BigInteger.ZERO, BigInteger::add)
                : all.getOrDefault(n, BigInteger.ZERO));
    }

    int must(int f, int n, boolean any) {
        if (!whole(rolls) || f < 0 || f >= game.frames) {
            return -1;
        }
        int bits = 0;
        for (int first = 0; first <= game.pins; first++) {
            Rest rest = fitting();
            if (torn[f]) {
                rest.given.set(f, List.of(first));
            } else if (take(rest.given.get(f).get(0)) != first) {
                continue;
            }
            TreeMap<Integer, BigInteger> all = rest.all();
            bits |= any && !all.isEmpty() || !any && all.containsKey(n) ? 1 << first : 0;
        }
        return bits;
    }

    // ---- the same by going through every sheet, one by one

    /** Totals of all ways to come of a sheet, with how many there are of each; small games only. */
    TreeMap<Integer, BigInteger> eachWay() {
        TreeMap<Integer, BigInteger> found = new TreeMap<>();
        eachWay(new ArrayList<>(rolls), found);
        return found;
    }

    private void eachWay(List<Integer> of, TreeMap<Integer, BigInteger> found) {
        if (whole(of)) {
            found.merge(total(of), BigInteger.ONE, BigInteger::add);
            return;
        }
        int stand = standing(of);
        for (int n = 0; n <= stand; n++) {
            of.add(n);
            eachWay(of, found);
            of.remove(of.size() - 1);
        }
    }

    /** Totals of all fits, likewise; bits: the firsts of a frame in them. */
    TreeMap<Integer, BigInteger> eachFit(int f, TreeMap<Integer, Integer> bits) {
        TreeMap<Integer, BigInteger> found = new TreeMap<>();
        List<List<Integer>> stood = frames(rolls);
        if (stood.size() <= game.frames) {
            stood.add(new ArrayList<>());
        }
        eachFit(new ArrayList<>(), stood, f, found, bits);
        return found;
    }

    private void eachFit(List<Integer> of, List<List<Integer>> stood, int f,
            TreeMap<Integer, BigInteger> found, TreeMap<Integer, Integer> bits) {
        List<List<Integer>> all = frames(of);
        boolean whole = whole(of);
        int last = all.size() - 1;
        // a frame that is over and not torn must be as it stood
        if (last >= 0 && last < game.frames && over(all.get(last)) && !torn[last]
                && !all.get(last).equals(stood.get(last))) {
            return;
        }
        if (whole) {
            List<Integer> fills = all.size() > game.frames ? all.get(game.frames) : List.of();
            if (torn[game.frames] || fills.equals(stood.get(game.frames))) {
                found.merge(total(of), BigInteger.ONE, BigInteger::add);
                bits.merge(total(of), 1 << take(all.get(f).get(0)), (a, b) -> a | b);
            }
            return;
        }
        int at = last < 0 ? 0 : last < game.frames && over(all.get(last)) ? last + 1 : last;
        int stand = standing(of);
        for (int n = torn[at] ? 0 : -2; n <= stand; n++) {
            if (n != -1) {
                of.add(n);
                eachFit(of, stood, f, found, bits);
                of.remove(of.size() - 1);
            }
        }
    }

    // ---- pins

    private boolean cannotBe(int set) {
        return set < 0 || set > 511 || set >> game.pins != 0;
    }

    /** Together: from the first pin on, one way of joins leads to each other one. */
    private boolean together(int set) {
        List<Integer> left = new ArrayList<>();
        for (int pin = 0; pin < 9; pin++) {
            if ((set >> pin & 1) == 1) {
                left.add(pin);
            }
        }
        Deque<Integer> seen = new ArrayDeque<>();
        if (!left.isEmpty()) {
            seen.add(left.remove(0));
        }
        while (!seen.isEmpty()) {
            int pin = seen.remove();
            for (int k = left.size() - 1; k >= 0; k--) {
                if (game.joined[pin][left.get(k)]) {
                    seen.add(left.remove(k));
                }
            }
        }
        return left.isEmpty();
    }

    int falls(int stand, int fallen) {
        if (cannotBe(stand) || cannotBe(fallen) || fallen == 0) {
            return -1;
        }
        return (stand | fallen) == stand && together(fallen) ? 1 : 0;
    }

    int split(int stand) {
        return cannotBe(stand) ? -1 : Integer.bitCount(stand) >= 2 && !together(stand) ? 1 : 0;
    }

    int fewest(int stand) {
        if (cannotBe(stand)) {
            return -1;
        }
        int[] best = new int[512];
        for (int set = 1; set <= stand; set++) {
            best[set] = 99;
            for (int some = set; some > 0; some = (some - 1) & set) {
                if (together(some)) {
                    best[set] = Math.min(best[set], 1 + best[set & ~some]);
                }
            }
        }
        return best[stand];
    }

    int leaves(int stand) {
        if (cannotBe(stand)) {
            return -1;
        }
        int n = 0;
        for (int left = 0; left < 512; left++) {
            n += (left & stand) == left && left != stand && together(stand & ~left) ? 1 : 0;
        }
        return n;
    }

    // ---- players

    int keep(int p) {
        if (p < 0 || p > 5 || !whole(rolls) || players.get(p).size() == 10) {
            return -1;
        }
        players.get(p).add(total(rolls));
        return players.get(p).size();
    }

    private int mean(int p) {
        List<Integer> all = players.get(p);
        int sum = all.stream().mapToInt(n -> n).sum();
        return all.isEmpty() ? 0 : (int) Math.floor((double) sum / all.size());
    }

    private int handicap(int p) {
        if (game.handicap.isEmpty()) {
            return 0;
        }
        Map<String, Long> facts = Map.of("mean", (long) mean(p), "games", (long) players.get(p).size());
        return (int) Math.max(0, Math.min(99, new Reckoner(game.handicap, facts).sum()));
    }

    int player(int p, int what) {
        if (p < 0 || p > 5) {
            return NOT_KNOWN;
        }
        List<Integer> all = players.get(p);
        switch (what) {
            case 0:
                return all.size();
            case 1:
                return all.stream().mapToInt(n -> n).sum();
            case 2:
                return mean(p);
            case 3:
                return handicap(p);
            case 4:
                return all.stream().mapToInt(n -> n).max().orElse(0);
            case 5:
                return byAll(p);
            default:
                return NOT_KNOWN;
        }
    }

    private int byAll(int p) {
        int sum = 0;
        for (int q = 0; q < 6; q++) {
            sum += p == q ? 0 : meet(p, q);
        }
        return sum;
    }

    int meet(int p, int q) {
        if (p < 0 || p > 5 || q < 0 || q > 5 || p == q) {
            return -1;
        }
        int sum = 0;
        for (int k = 0; k < players.get(p).size() && k < players.get(q).size(); k++) {
            int a = players.get(p).get(k) + handicap(p);
            int b = players.get(q).get(k) + handicap(q);
            sum += a > b ? 2 : a == b ? 1 : 0;
        }
        return sum;
    }

    int place(int p) {
        if (p < 0 || p > 5) {
            return -1;
        }
        int n = 0;
        for (int q = 0; q < 6; q++) {
            n += byAll(q) > byAll(p) ? 1 : 0;
        }
        return n;
    }

    // ---- images

    private static int check(List<Integer> bytes) {
        int c = 11;
        for (int b : bytes) {
            c = (7 * c + b) % 239;
        }
        return c;
    }

    int image() {
        image = new ArrayList<>();
        image.add(rolls.size());
        for (int n : rolls) {
            image.add(n == -2 ? 200 : n);
        }
        image.add(check(image));
        return image.size();
    }

    int octet(int k) {
        return k < 0 || k >= image.size() ? -1 : image.get(k);
    }

    boolean on() {
        List<Integer> bytes = new ArrayList<>();
        for (char c : tape.toString().toCharArray()) {
            bytes.add((int) c);
        }
        tape.setLength(0);
        int n = bytes.size();
        if (n < 2 || bytes.get(0) != n - 2 || bytes.get(n - 1) != check(bytes.subList(0, n - 1))) {
            return false;
        }
        List<Integer> told = new ArrayList<>();
        for (int b : bytes.subList(1, n - 1)) {
            int roll = b == 200 ? -2 : b;
            if (!canRoll(told, roll)) {
                return false;
            }
            told.add(roll);
        }
        rolls = told;
        torn = new boolean[9];
        return true;
    }
}
