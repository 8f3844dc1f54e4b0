/**
 * Ninepin alley: games told as texts of laws, sheets filled roll by roll, what can still come of them,
 * torn sheets, pins that hang together, players and images of sheets.
 */
public final class NinepinAlley {
    public static final int NONE = -1;
    public static final int FOUL = -2;

    private static final int NOT_KNOWN = -1000000;
    private static final int TAPE_MOST = 700;
    private static final int FED_AT_ONCE = 20;
    private static final int PINS_MOST = 9;
    private static final int FRAMES_MOST = 8;
    private static final int ROLLS_MOST = 3;
    private static final int EARNS_MOST = 3;
    private static final int SHEET_MOST = FRAMES_MOST * ROLLS_MOST + EARNS_MOST;
    private static final int FOUL_BYTE = 200;
    private static final long COUNT_MOST = 1000000000000000000L;

    private final int[] tape = new int[TAPE_MOST];
    private int taped = 0;
    private Laws laws = new Laws();
    private Laws spareLaws = new Laws();
    private final Reader reader = new Reader(spareLaws);
    private Sheet sheet = new Sheet(laws);
    private Sheet spareSheet = new Sheet(laws);
    private final boolean[] torn = new boolean[FRAMES_MOST + 1];
    private final Outlook outlook = new Outlook(sheet);
    private final Roster roster = new Roster();
    private final int[] imageBytes = new int[SHEET_MOST + 2];
    private int imageSize = 0;

    public NinepinAlley() {
    }

    // ---- the tape and the game

    public int feed(int a, int b, int c, int d, int e) {
        if (taped + FED_AT_ONCE > TAPE_MOST) {
            return NONE;
        }
        append(a);
        append(b);
        append(c);
        append(d);
        append(e);
        return taped;
    }

    public boolean end(int n) {
        if (n < 0 || n > taped) {
            return false;
        }
        taped = n;
        return true;
    }

    public int game() {
        boolean read = reader.read(tape, taped, spareLaws);
        taped = 0;
        if (!read) {
            return NONE;
        }
        Laws old = laws;
        laws = spareLaws;
        spareLaws = old;
        laws.settle();
        sheet.empty(laws);
        roster.forget();
        sheetIsNew();
        return laws.statements;
    }

    public int fault(int what) {
        if (what == 0) {
            return reader.faultKind;
        }
        return what == 1 ? reader.faultPlace : NONE;
    }

    public int has(int what) {
        switch (what) {
            case 0:
                return laws.pins;
            case 1:
                return laws.frames;
            case 2:
                return laws.rolls;
            case 3:
                return laws.foulCost;
            case 4:
            case 5:
            case 6:
                return laws.earnedBy(what - 3);
            case 7:
                return laws.worths;
            case 8:
                return laws.countJoins();
            default:
                return NONE;
        }
    }

    // ---- the sheet

    public boolean roll(int n) {
        if (!sheet.add(n)) {
            return false;
        }
        sheetIsNew();
        return true;
    }

    public boolean back() {
        if (!sheet.takeLast()) {
            return false;
        }
        sheetIsNew();
        return true;
    }

    public int clear() {
        int had = sheet.count;
        sheet.empty(laws);
        sheetIsNew();
        return had;
    }

    public int sheet(int what) {
        boolean whole = sheet.isWhole();
        switch (what) {
            case 0:
                return sheet.count;
            case 1:
                return whole ? NONE : sheet.at;
            case 2:
                return whole ? 0 : sheet.used;
            case 3:
                return whole ? 0 : sheet.stand;
            case 4:
                return whole ? 1 : 0;
            case 5:
                return sheet.fillsEarned();
            default:
                return NONE;
        }
    }

    public int rolled(int i) {
        if (i < 0 || i >= sheet.count || i >= sheet.taken.length) {
            return NONE;
        }
        return sheet.taken[i];
    }

    public int frame(int f, int what) {
        if (f < 0 || f >= laws.frames || sheet.sizeOf(f) == 0) {
            return NONE;
        }
        switch (what) {
            case 0:
                return sheet.downIn(f);
            case 1:
                return sheet.sizeOf(f);
            case 2:
                return sheet.cleanBy(f);
            case 3:
                return sheet.foulsIn(f);
            default:
                return NONE;
        }
    }

    public int points(int f) {
        return sheet.isSettled(f) ? sheet.worthAndTaken(f) : NOT_KNOWN;
    }

    public int total() {
        return sheet.isWhole() ? sheet.sumOfFrames() : NOT_KNOWN;
    }

    // ---- what is to come

    public int come(boolean most) {
        outlook.lookAhead(sheet, true);
        return most ? outlook.greatest() : outlook.least();
    }

    public long ways(int n, boolean more) {
        outlook.lookAhead(sheet, true);
        return more ? outlook.countFrom(n) : outlook.at(n);
    }

    public int needs(int target, boolean sure) {
        if (sheet.isWhole()) {
            return NONE;
        }
        outlook.lookAhead(sheet, false);
        long reaching = outlook.marksFrom(target);
        // a take that can also end below the target makes nothing sure
        long good = sure ? reaching & ~outlook.marksBelow(target) : reaching;
        for (int n = 0; n <= PINS_MOST; n++) {
            if ((good >> n & 1) == 1) {
                return n;
            }
        }
        return NONE;
    }

    // ---- torn sheets

    public boolean tear(int f, boolean torn) {
        if (f < 0 || f > laws.frames || f >= this.torn.length || !sheet.isWhole()) {
            return false;
        }
        this.torn[f] = torn;
        outlook.forget();
        return true;
    }

    public long fits(int n, boolean any) {
        if (!sheet.isWhole()) {
            return NONE;
        }
        outlook.lookAtTorn(sheet, torn, NONE);
        return any ? outlook.countFrom(Outlook.LOWEST) : outlook.at(n);
    }

    public int must(int f, int n, boolean any) {
        if (f < 0 || f >= laws.frames || !sheet.isWhole()) {
            return NONE;
        }
        outlook.lookAtTorn(sheet, torn, f);
        return (int) (any ? outlook.marksFrom(Outlook.LOWEST) : outlook.at(n));
    }

    // ---- pins

    public int falls(int stand, int fallen) {
        if (!laws.hasPins(stand) || !laws.hasPins(fallen) || fallen == 0) {
            return NONE;
        }
        return (fallen & ~stand) == 0 && laws.hangTogether(fallen) ? 1 : 0;
    }

    public int split(int stand) {
        if (!laws.hasPins(stand)) {
            return NONE;
        }
        return stand != 0 && !laws.hangTogether(stand) ? 1 : 0;
    }

    public int fewest(int stand) {
        return laws.hasPins(stand) ? laws.countClusters(stand) : NONE;
    }

    public int leaves(int stand) {
        return laws.hasPins(stand) ? laws.countFalls(stand) : NONE;
    }

    // ---- players

    public int keep(int player) {
        if (!roster.knows(player) || !sheet.isWhole()) {
            return NONE;
        }
        return roster.add(player, sheet.sumOfFrames());
    }

    public int player(int player, int what) {
        if (!roster.knows(player)) {
            return NOT_KNOWN;
        }
        roster.setHandicaps(laws);
        switch (what) {
            case 0:
                return roster.gamesOf(player);
            case 1:
                return roster.sumOf(player);
            case 2:
                return roster.meanOf(player);
            case 3:
                return roster.handicapOf(player);
            case 4:
                return roster.bestOf(player);
            case 5:
                return roster.gathered(player);
            default:
                return NOT_KNOWN;
        }
    }

    public int meet(int first, int second) {
        if (!roster.knows(first) || !roster.knows(second) || first == second) {
            return NONE;
        }
        roster.setHandicaps(laws);
        return roster.meeting(first, second);
    }

    public int place(int player) {
        if (!roster.knows(player)) {
            return NONE;
        }
        roster.setHandicaps(laws);
        return roster.countAhead(player);
    }

    // ---- images

    public int image() {
        int rolls = within(0, sheet.count, SHEET_MOST);
        imageBytes[0] = rolls;
        for (int i = 0; i < rolls; i++) {
            imageBytes[i + 1] = sheet.taken[i] == FOUL ? FOUL_BYTE : sheet.taken[i];
        }
        imageBytes[rolls + 1] = checkByte(imageBytes, rolls + 1);
        imageSize = rolls + 2;
        return imageSize;
    }

    public int octet(int k) {
        return k < 0 || k >= imageSize || k >= imageBytes.length ? NONE : imageBytes[k];
    }

    public boolean on() {
        int size = taped;
        taped = 0;
        if (!isImage(size)) {
            return false;
        }
        spareSheet.empty(laws);
        for (int i = 1; i < size - 1; i++) {
            int n = tape[i] == FOUL_BYTE ? FOUL : tape[i];
            if (!spareSheet.add(n)) {
                return false;
            }
        }
        Sheet old = sheet;
        sheet = spareSheet;
        spareSheet = old;
        sheetIsNew();
        return true;
    }

    // ---- help for the calls above

    private void append(int number) {
        for (int shift = 24; shift >= 0 && taped < TAPE_MOST; shift -= 8) {
            tape[taped] = number >>> shift & 255;
            taped++;
        }
    }

    private void sheetIsNew() {
        for (int f = 0; f < torn.length; f++) {
            torn[f] = false;
        }
        outlook.forget();
    }

    private boolean isImage(int size) {
        if (size < 2 || size > imageBytes.length || tape[0] != size - 2) {
            return false;
        }
        return tape[size - 1] == checkByte(tape, size - 1);
    }

    private static int checkByte(int[] bytes, int size) {
        int check = 11;
        for (int i = 0; i < size && i < bytes.length; i++) {
            check = (7 * check + bytes[i]) % 239;
        }
        return check;
    }

    private static int within(int low, int n, int high) {
        return Math.max(low, Math.min(high, n));
    }

    /** Sums and tests behind one another, each in the order in which a stack reckons it. */
    private static final class Code {
        static final int ALL = 1;
        static final int FRAME = -1;
        static final int DOWN = -2;
        static final int USED = -3;
        static final int FOULS = -4;
        static final int MEAN = -5;
        static final int GAMES = -6;
        static final int PLUS = -11;
        static final int MINUS = -12;
        static final int TIMES = -13;
        static final int THROUGH = -14;
        static final int MIN = -15;
        static final int MAX = -16;
        static final int LESS = -17;
        static final int MORE = -18;
        static final int EQUAL = -19;
        static final int AND = -20;
        static final int OR = -21;
        static final int NOT = -22;

        private static final int LIMIT = 1000000;
        // six open brackets keep at most three numbers each, and a bare test six
        private static final int STACK_MOST = 64;

        private final int[] ops = new int[TAPE_MOST];
        private int size = 0;
        private final int[] facts = new int[7];
        private final int[] stack = new int[STACK_MOST];
        private int height = 0;

        void empty() {
            size = 0;
        }

        int sizeNow() {
            return size;
        }

        /** One op; 0 and more is a number itself. Each has a byte of the text, so there is always room. */
        boolean put(int op) {
            if (size >= ops.length) {
                return false;
            }
            ops[size] = op;
            size++;
            return true;
        }

        void setFrame(int number, int down, int used, int fouls) {
            facts[-FRAME] = number;
            facts[-DOWN] = down;
            facts[-USED] = used;
            facts[-FOULS] = fouls;
            facts[-MEAN] = 0;
            facts[-GAMES] = 0;
        }

        void setPlayer(int mean, int games) {
            setFrame(0, 0, 0, 0);
            facts[-MEAN] = mean;
            facts[-GAMES] = games;
        }

        /** What the ops of a stretch come to; 0 for an empty one. */
        int reckon(int from, int to) {
            height = 0;
            for (int i = Math.max(from, 0); i < to && i < size; i++) {
                step(ops[i]);
            }
            return pop();
        }

        private void step(int op) {
            if (op >= 0) {
                push(op);
            } else if (op >= GAMES) {
                push(facts[-op]);
            } else if (op == NOT) {
                push(1 - pop());
            } else {
                int second = pop();
                int first = pop();
                push(join(op, first, second));
            }
        }

        private static int join(int op, int a, int b) {
            switch (op) {
                case PLUS:
                    return within(-LIMIT, a + b, LIMIT);
                case MINUS:
                    return within(-LIMIT, a - b, LIMIT);
                case TIMES:
                    return (int) Math.max(-LIMIT, Math.min(LIMIT, (long) a * b));
                case THROUGH:
                    return b == 0 ? 0 : Math.floorDiv(a, b);
                case MIN:
                    return Math.min(a, b);
                case MAX:
                    return Math.max(a, b);
                case LESS:
                    return a < b ? 1 : 0;
                case MORE:
                    return a > b ? 1 : 0;
                case EQUAL:
                    return a == b ? 1 : 0;
                case AND:
                    return a & b;
                default:
                    return a | b;
            }
        }

        private void push(int n) {
            if (height < stack.length) {
                stack[height] = n;
                height++;
            }
        }

        private int pop() {
            if (height <= 0 || height > stack.length) {
                return 0;
            }
            height--;
            return stack[height];
        }
    }

    /** A GAME. */
    private static final class Laws {
        static final int STATEMENTS_MOST = 30;
        private static final int WORTH_MOST = 20;
        private static final int HANDICAP_MOST = 99;

        int statements;
        int pins;
        int frames;
        int rolls;
        int foulCost;
        int worths;
        final Code code = new Code();
        private final int[] earns = new int[ROLLS_MOST + 1];
        private final int[] joined = new int[PINS_MOST];
        private final int[] sumAt = new int[STATEMENTS_MOST];
        private final int[] testAt = new int[STATEMENTS_MOST];
        private final int[] worthEnd = new int[STATEMENTS_MOST];
        private int handicapAt;
        private int handicapEnd;
        // the worth of every frame there can be: reckoned once a game, looked up by all sheets
        private final int[] worthTable = new int[FRAMES_MOST * (PINS_MOST + 1) * 16];

        Laws() {
            empty();
        }

        void empty() {
            statements = 0;
            pins = 9;
            frames = 6;
            rolls = 2;
            foulCost = 0;
            worths = 0;
            code.empty();
            handicapAt = 0;
            handicapEnd = 0;
            for (int k = 0; k < earns.length; k++) {
                earns[k] = 0;
            }
            for (int pin = 0; pin < joined.length; pin++) {
                joined[pin] = 0;
            }
        }

        // ---- what the reader tells

        void setEarned(int k, int n) {
            if (k >= 0 && k < earns.length) {
                earns[k] = n;
            }
        }

        void joinPins(int one, int other) {
            if (isPin(one) && isPin(other)) {
                joined[one] |= 1 << other;
                joined[other] |= 1 << one;
            }
        }

        void addWorth(int sumFrom, int testFrom) {
            if (worths < STATEMENTS_MOST) {
                sumAt[worths] = sumFrom;
                testAt[worths] = testFrom;
                worthEnd[worths] = code.sizeNow();
                worths++;
            }
        }

        void setHandicap(int from) {
            handicapAt = from;
            handicapEnd = code.sizeNow();
        }

        /** To be called when all is told, and ahead of worthOf. */
        void settle() {
            for (int f = 0; f < frames; f++) {
                for (int down = 0; down <= pins; down++) {
                    for (int used = 1; used <= rolls; used++) {
                        settleFouls(f, down, used);
                    }
                }
            }
        }

        private void settleFouls(int f, int down, int used) {
            for (int fouls = 0; fouls <= used; fouls++) {
                int i = worthIndex(f, down, used, fouls);
                if (i >= 0 && i < worthTable.length) {
                    worthTable[i] = reckonWorth(f, down, used, fouls);
                }
            }
        }

        private int reckonWorth(int f, int down, int used, int fouls) {
            code.setFrame(f + 1, down, used, fouls);
            for (int i = 0; i < worths && i < STATEMENTS_MOST; i++) {
                if (code.reckon(testAt[i], worthEnd[i]) != 0) {
                    return within(-WORTH_MOST, code.reckon(sumAt[i], testAt[i]), WORTH_MOST);
                }
            }
            return 0;
        }

        private static int worthIndex(int f, int down, int used, int fouls) {
            return (f * (PINS_MOST + 1) + down) * 16 + used * 4 + fouls;
        }

        // ---- what the game says

        int worthOf(int f, int down, int used, int fouls) {
            int i = worthIndex(f, down, used, fouls);
            return i < 0 || i >= worthTable.length ? 0 : worthTable[i];
        }

        /** How many rolls a frame earns that is clean by its k-th; 0: it is not clean. */
        int earnedBy(int k) {
            return k < 0 || k >= earns.length ? 0 : earns[k];
        }

        int handicap(int mean, int games) {
            code.setPlayer(mean, games);
            return within(0, code.reckon(handicapAt, handicapEnd), HANDICAP_MOST);
        }

        // ---- pins as bits

        private static boolean isPin(int pin) {
            return pin >= 0 && pin < PINS_MOST;
        }

        boolean hasPins(int set) {
            return set >= 0 && set < 1 << pins;
        }

        int countJoins() {
            int ends = 0;
            for (int pin = 0; pin < joined.length; pin++) {
                ends += Integer.bitCount(joined[pin]);
            }
            return ends / 2;
        }

        boolean hangTogether(int set) {
            return set != 0 && cluster(set) == set;
        }

        int countClusters(int set) {
            int left = set;
            int clusters = 0;
            for (int n = 0; n < PINS_MOST && left != 0; n++) {
                left &= ~cluster(left);
                clusters++;
            }
            return clusters;
        }

        /** Sets that fall leave unlike sets, so the leaves are as many as the falls. */
        int countFalls(int set) {
            int count = 0;
            for (int some = 1; some <= set; some++) {
                if ((some & ~set) == 0 && hangTogether(some)) {
                    count++;
                }
            }
            return count;
        }

        /** What hangs together with the lowest pin of a set. */
        private int cluster(int set) {
            int found = set & -set;
            for (int round = 0; round < PINS_MOST; round++) {
                int grown = found;
                for (int pin = 0; pin < joined.length; pin++) {
                    if ((found >> pin & 1) == 1) {
                        grown |= joined[pin] & set;
                    }
                }
                if (grown == found) {
                    return found;
                }
                found = grown;
            }
            return found;
        }
    }

    /** Reads the text of a GAME; every reading method is false at a FAULT, and all above it end then. */
    private static final class Reader {
        private static final int OPEN_MOST = 6;
        private static final int DIGITS_MOST = 4;
        private static final int GREATEST = 9999;

        int faultKind = 0;
        int faultPlace = NONE;
        private int[] text = new int[0];
        private int length = 0;
        private int at = 0;
        private Laws laws;

        Reader(Laws empty) {
            laws = empty;
        }

        boolean read(int[] bytes, int size, Laws empty) {
            text = bytes;
            length = Math.min(size, bytes.length);
            at = 0;
            faultKind = 0;
            faultPlace = NONE;
            laws = empty;
            laws.empty();
            skip();
            for (int n = 0; n <= Laws.STATEMENTS_MOST; n++) {
                laws.statements = n;
                if (at >= length) {
                    return true;
                }
                if (n == Laws.STATEMENTS_MOST) {
                    return fail(5, at);
                }
                if (!statement() || !takesSign(';')) {
                    return fail(1, at);
                }
            }
            return false;
        }

        private boolean statement() {
            if (takes("pins")) {
                laws.pins = number(1, PINS_MOST);
            } else if (takes("frames")) {
                laws.frames = number(1, FRAMES_MOST);
            } else if (takes("rolls")) {
                laws.rolls = number(1, ROLLS_MOST);
            } else if (takes("foul")) {
                laws.foulCost = number(0, 10);
            } else if (takes("clean")) {
                return clean();
            } else if (takes("worth")) {
                return worth();
            } else if (takes("handicap")) {
                return handicap();
            } else if (takes("joins")) {
                return joins();
            } else {
                return fail(1, at);
            }
            return faultKind == 0;
        }

        private boolean clean() {
            int k = number(1, ROLLS_MOST);
            if (k == NONE || !expectsWord("earns")) {
                return false;
            }
            int n = number(0, EARNS_MOST);
            laws.setEarned(k, n);
            return n != NONE;
        }

        private boolean worth() {
            int sumFrom = laws.code.sizeNow();
            if (!sum(0) || !expectsWord("when")) {
                return false;
            }
            int testFrom = laws.code.sizeNow();
            if (!test(0)) {
                return false;
            }
            laws.addWorth(sumFrom, testFrom);
            return true;
        }

        private boolean handicap() {
            int from = laws.code.sizeNow();
            if (!sum(0)) {
                return false;
            }
            laws.setHandicap(from);
            return true;
        }

        private boolean joins() {
            int one = number(0, PINS_MOST - 1);
            if (one == NONE) {
                return false;
            }
            int place = at;
            int other = number(0, PINS_MOST - 1);
            if (other == NONE) {
                return false;
            }
            if (other == one) {
                return fail(2, place);
            }
            laws.joinPins(one, other);
            return true;
        }

        // ---- tests; open: how many ( [ not are open

        private boolean test(int open) {
            if (!both(open)) {
                return false;
            }
            for (int n = 0; n < length && takes("or"); n++) {
                if (!both(open) || !laws.code.put(Code.OR)) {
                    return false;
                }
            }
            return true;
        }

        private boolean both(int open) {
            if (!fact(open)) {
                return false;
            }
            for (int n = 0; n < length && takes("and"); n++) {
                if (!fact(open) || !laws.code.put(Code.AND)) {
                    return false;
                }
            }
            return true;
        }

        private boolean fact(int open) {
            int place = at;
            if (takes("not")) {
                return mayOpen(open, place) && fact(open + 1) && laws.code.put(Code.NOT);
            }
            if (takesSign('[')) {
                return mayOpen(open, place) && test(open + 1) && takesSign(']') || fail(1, at);
            }
            if (takes("all")) {
                return laws.code.put(Code.ALL);
            }
            if (!sum(open)) {
                return false;
            }
            int op = takesSign('<') ? Code.LESS : takesSign('>') ? Code.MORE : takesSign('=') ? Code.EQUAL : 0;
            if (op == 0) {
                return fail(1, at);
            }
            return sum(open) && laws.code.put(op);
        }

        // ---- sums

        private boolean sum(int open) {
            if (!product(open)) {
                return false;
            }
            for (int n = 0; n < length; n++) {
                int op = takesSign('+') ? Code.PLUS : takesSign('-') ? Code.MINUS : 0;
                if (op == 0) {
                    return true;
                }
                if (!product(open) || !laws.code.put(op)) {
                    return false;
                }
            }
            return true;
        }

        private boolean product(int open) {
            if (!part(open)) {
                return false;
            }
            for (int n = 0; n < length; n++) {
                int op = takesSign('*') ? Code.TIMES : takesSign('/') ? Code.THROUGH : 0;
                if (op == 0) {
                    return true;
                }
                if (!part(open) || !laws.code.put(op)) {
                    return false;
                }
            }
            return true;
        }

        private boolean part(int open) {
            int place = at;
            if (takesSign('(')) {
                return mayOpen(open, place) && sum(open + 1) && takesSign(')') || fail(1, at);
            }
            if (takes("min")) {
                return pair(open, Code.MIN);
            }
            if (takes("max")) {
                return pair(open, Code.MAX);
            }
            if (takes("frame")) {
                return laws.code.put(Code.FRAME);
            }
            if (takes("down")) {
                return laws.code.put(Code.DOWN);
            }
            if (takes("used")) {
                return laws.code.put(Code.USED);
            }
            if (takes("fouls")) {
                return laws.code.put(Code.FOULS);
            }
            if (takes("mean")) {
                return laws.code.put(Code.MEAN);
            }
            if (takes("games")) {
                return laws.code.put(Code.GAMES);
            }
            int n = number(0, GREATEST);
            return n != NONE && laws.code.put(n);
        }

        private boolean pair(int open, int op) {
            int place = at;
            return takesSign('(') && mayOpen(open, place) && sum(open + 1)
                    && takesSign(',') && sum(open + 1) && takesSign(')') && laws.code.put(op) || fail(1, at);
        }

        private boolean mayOpen(int open, int place) {
            return open < OPEN_MOST || fail(4, place);
        }

        // ---- words, numbers and signs; all leave the place at the next one

        private boolean takes(String word) {
            int stop = at + word.length();
            // a longer word is another one, and a word beside a number needs a blank
            if (stop > length || isLetter(stop) || isDigit(at - 1)) {
                return false;
            }
            for (int i = 0; i < word.length(); i++) {
                if (text[at + i] != word.charAt(i)) {
                    return false;
                }
            }
            at = stop;
            skip();
            return true;
        }

        private boolean takesSign(char sign) {
            if (at >= length || text[at] != sign) {
                return false;
            }
            at++;
            skip();
            return true;
        }

        private boolean expectsWord(String word) {
            return takes(word) || fail(1, at);
        }

        /** A number; NONE at a fault. */
        private int number(int least, int most) {
            if (!isDigit(at) || isLetter(at - 1)) {
                fail(1, at);
                return NONE;
            }
            int n = 0;
            int stop = at;
            while (stop < length && isDigit(stop)) {
                if (stop - at == DIGITS_MOST) {
                    fail(1, stop);
                    return NONE;
                }
                n = 10 * n + text[stop] - '0';
                stop++;
            }
            if (n < least || n > most) {
                fail(2, at);
                return NONE;
            }
            at = stop;
            skip();
            return n;
        }

        private void skip() {
            while (at < length && (text[at] == 32 || text[at] == 10)) {
                at++;
            }
        }

        private boolean isLetter(int i) {
            return i >= 0 && i < length && text[i] >= 'a' && text[i] <= 'z';
        }

        private boolean isDigit(int i) {
            return i >= 0 && i < length && text[i] >= '0' && text[i] <= '9';
        }

        /** The first fault stays: those that end because of it may tell theirs. */
        private boolean fail(int kind, int place) {
            if (faultKind == 0) {
                faultKind = kind;
                faultPlace = place;
            }
            return false;
        }
    }

    /** The rolls of a SHEET and where it stands. */
    private static final class Sheet {
        final int[] taken = new int[SHEET_MOST];
        int count;
        /** The frame of the next roll; frames: a fill. */
        int at;
        /** How many rolls that frame has, or how many fills there are. */
        int used;
        int stand;
        private Laws laws;
        private final int[] firstOf = new int[FRAMES_MOST + 1];
        /** How many rolls there must be, for all that frames have earned. */
        private int reach;

        Sheet(Laws game) {
            empty(game);
        }

        void empty(Laws game) {
            laws = game;
            count = 0;
            at = 0;
            used = 0;
            stand = game.pins;
            reach = 0;
            firstOf[0] = 0;
        }

        boolean isWhole() {
            return at >= laws.frames && count >= reach;
        }

        boolean add(int n) {
            if (isWhole() || count >= SHEET_MOST || n > stand || n < 0 && n != FOUL) {
                return false;
            }
            taken[count] = n;
            count++;
            used++;
            stand -= Math.max(n, 0);
            if (at >= laws.frames) {
                stand = stand == 0 ? laws.pins : stand;
            } else if (stand == 0 || used >= laws.rolls) {
                closeFrame();
            }
            return true;
        }

        private void closeFrame() {
            if (stand == 0) {
                reach = Math.max(reach, count + laws.earnedBy(used));
            }
            at++;
            if (at < firstOf.length) {
                firstOf[at] = count;
            }
            used = 0;
            stand = laws.pins;
        }

        boolean takeLast() {
            if (count == 0) {
                return false;
            }
            int left = count - 1;
            empty(laws);
            for (int i = 0; i < left && i < SHEET_MOST; i++) {
                add(taken[i]);
            }
            return true;
        }

        int fillsEarned() {
            return at < laws.frames ? 0 : Math.max(0, reach - firstRoll(laws.frames));
        }

        int firstRoll(int f) {
            return f < 0 || f > at || f >= firstOf.length ? count : firstOf[f];
        }

        int rollAt(int i) {
            return i < 0 || i >= count || i >= SHEET_MOST ? NONE : taken[i];
        }

        /** How many rolls a frame has; frames: how many fills there are. */
        int sizeOf(int f) {
            return firstRoll(f + 1) - firstRoll(f);
        }

        int downIn(int f) {
            return takenFrom(firstRoll(f), sizeOf(f));
        }

        int foulsIn(int f) {
            int fouls = 0;
            for (int i = firstRoll(f); i < firstRoll(f + 1); i++) {
                fouls += rollAt(i) == FOUL ? 1 : 0;
            }
            return fouls;
        }

        /** By which roll a frame is clean; 0: it is not. */
        int cleanBy(int f) {
            return downIn(f) == laws.pins ? sizeOf(f) : 0;
        }

        private int takenFrom(int first, int rolls) {
            int sum = 0;
            for (int i = first; i < first + rolls; i++) {
                sum += Math.max(rollAt(i), 0);
            }
            return sum;
        }

        /** Whether a frame is over and all that it earns is rolled. */
        boolean isSettled(int f) {
            return f >= 0 && f < at && f < laws.frames
                    && firstRoll(f + 1) + laws.earnedBy(cleanBy(f)) <= count;
        }

        /** The points of a frame that is settled. */
        int worthAndTaken(int f) {
            int down = downIn(f);
            int fouls = foulsIn(f);
            int earned = takenFrom(firstRoll(f + 1), laws.earnedBy(cleanBy(f)));
            return down + earned + laws.worthOf(f, down, sizeOf(f), fouls) - fouls * laws.foulCost;
        }

        /** The total of a sheet that is whole. */
        int sumOfFrames() {
            int sum = 0;
            for (int f = 0; f < laws.frames; f++) {
                sum += worthAndTaken(f);
            }
            return sum;
        }
    }

    /**
     * All whole sheets of which some rolls are given, by their totals: how many there are of each (counting),
     * or which pins one roll takes in them (its marks, as bits). The frames are gone through from the first on;
     * what is held is, for each state of what is still earned and each sum so far, the count or the marks.
     * The states: how many frames earn the next roll, the one behind it, the third.
     */
    private static final class Outlook {
        // a frame is 50 below nothing at the least (worth -20, 3 fouls of 10), and 56 above at the most
        static final int LOWEST = -400;
        private static final int WIDTH = 850;
        private static final int LEAST_GAIN = -50;
        private static final int GAINS = 107;

        private static final int[] NEXT = {0, 1, 1, 1, 2, 2, 2, 2, 2, 3, 3, 3, 3, 3};
        private static final int[] SECOND = {0, 0, 1, 1, 0, 1, 1, 2, 2, 0, 1, 1, 2, 2};
        private static final int[] THIRD = {0, 0, 0, 1, 0, 0, 1, 0, 1, 0, 0, 1, 0, 1};
        private static final int[] STATE_OF_NEXT = {0, 1, 4, 9};
        private static final int STATES = 14;

        // kinds of what is held, so that asking again costs nothing; marks of frame f are TORN_MARKS + f
        private static final int NOTHING = 0;
        private static final int AHEAD_COUNTS = 1;
        private static final int AHEAD_MARKS = 2;
        private static final int TORN_COUNTS = 3;
        private static final int TORN_MARKS = 4;

        private int holds = NOTHING;
        private Span now = new Span(STATES, WIDTH);
        private Span next = new Span(STATES, WIDTH);
        private Sheet sheet;
        private Laws laws;
        private final int[] given = new int[FRAMES_MOST + 1];
        private boolean fillsAsGiven = false;
        private boolean counting = false;
        private int markFrame = NONE;
        private int markRoll = 0;
        private long mark = 1;
        // what can become of one frame, ways of the same gain and the same state behind it put together
        private final long[] group = new long[STATES * GAINS];
        private final int[] grouped = new int[STATES * GAINS];
        private int groups = 0;

        Outlook(Sheet first) {
            sheet = first;
            laws = first.laws;
        }

        void forget() {
            holds = NOTHING;
        }

        /** All TO COME of a sheet; the marks are those of the next roll. */
        void lookAhead(Sheet of, boolean counts) {
            int kind = counts ? AHEAD_COUNTS : AHEAD_MARKS;
            if (holds == kind) {
                return;
            }
            holds = kind;
            counting = counts;
            fillsAsGiven = false;
            markFrame = of.at;
            markRoll = of.used;
            for (int f = 0; f < given.length; f++) {
                given[f] = of.sizeOf(f);
            }
            goThrough(of);
        }

        /** All FITS of a whole sheet; the marks are those of a frame's first roll, NONE: counts. */
        void lookAtTorn(Sheet of, boolean[] torn, int marked) {
            int kind = marked == NONE ? TORN_COUNTS : TORN_MARKS + marked;
            if (holds == kind) {
                return;
            }
            holds = kind;
            counting = marked == NONE;
            markFrame = marked;
            markRoll = 0;
            for (int f = 0; f < given.length; f++) {
                given[f] = isTorn(torn, f) ? 0 : of.sizeOf(f);
            }
            fillsAsGiven = !isTorn(torn, of.laws.frames);
            goThrough(of);
        }

        private static boolean isTorn(boolean[] torn, int f) {
            return f >= 0 && f < torn.length && torn[f];
        }

        // ---- what has been found

        long at(int n) {
            return n < LOWEST || n >= LOWEST + WIDTH ? 0 : now.value(0, n - LOWEST);
        }

        int least() {
            return LOWEST + now.low(0);
        }

        int greatest() {
            return LOWEST + now.high(0);
        }

        long countFrom(int n) {
            long sum = 0;
            for (int t = Math.max(n, least()); t <= greatest(); t++) {
                sum = Math.min(COUNT_MOST, sum + at(t));
            }
            return sum;
        }

        long marksFrom(int n) {
            long marks = 0;
            for (int t = Math.max(n, least()); t <= greatest(); t++) {
                marks |= at(t);
            }
            return marks;
        }

        long marksBelow(int n) {
            long marks = 0;
            for (int t = least(); t < n && t <= greatest(); t++) {
                marks |= at(t);
            }
            return marks;
        }

        // ---- going through the frames

        private void goThrough(Sheet of) {
            sheet = of;
            laws = of.laws;
            now.open();
            next.open();
            now.wipe();
            now.set(0, -LOWEST, 1);
            for (int f = 0; f <= laws.frames; f++) {
                goThroughFrame(f);
            }
        }

        private void goThroughFrame(int f) {
            for (int state = 0; state < STATES; state++) {
                if (now.isEmpty(state)) {
                    continue;
                }
                mark = 1;
                if (f < laws.frames) {
                    playFrame(f, 0, laws.pins, state, 0, 0);
                } else if (!fillsAsGiven || fillsOf(state) == givenIn(f)) {
                    playFills(0, laws.pins, state, 0);
                }
                for (int i = 0; i < groups && i < grouped.length; i++) {
                    moveGroup(state, grouped[i], f == markFrame);
                }
                groups = 0;
            }
            now.wipe();
            Span old = now;
            now = next;
            next = old;
        }

        /** All that can become of a frame that has some rolls; gain: what they brought to all frames. */
        private void playFrame(int f, int used, int stand, int state, int gain, int fouls) {
            if (stand <= 0 || used >= laws.rolls) {
                int worth = laws.worthOf(f, laws.pins - stand, used, fouls);
                int earned = stand <= 0 ? laws.earnedBy(used) : 0;
                addToGroup(stateWith(state, earned), gain + worth - fouls * laws.foulCost);
                return;
            }
            int each = 1 + nextOf(state);
            int behind = stateBehind(state);
            if (used < givenIn(f)) {
                int n = sheet.rollAt(sheet.firstRoll(f) + used);
                int take = within(0, n, stand);
                markTake(f, used, take);
                playFrame(f, used + 1, stand - take, behind, gain + each * take, fouls + (n == FOUL ? 1 : 0));
                return;
            }
            for (int take = 0; take <= stand; take++) {
                markTake(f, used, take);
                playFrame(f, used + 1, stand - take, behind, gain + each * take, fouls);
            }
        }

        /** All fills behind some; a fill counts only for the frames that earn it. */
        private void playFills(int used, int stand, int state, int gain) {
            int each = nextOf(state);
            if (each == 0 || used >= EARNS_MOST) {
                addToGroup(0, gain);
                return;
            }
            int least = 0;
            int most = stand;
            if (used < givenIn(laws.frames)) {
                least = within(0, sheet.rollAt(sheet.firstRoll(laws.frames) + used), stand);
                most = least;
            }
            for (int take = least; take <= most; take++) {
                markTake(laws.frames, used, take);
                int left = take == stand ? laws.pins : stand - take;
                playFills(used + 1, left, stateBehind(state), gain + each * take);
            }
        }

        private int givenIn(int f) {
            return f < 0 || f >= given.length ? 0 : given[f];
        }

        private void markTake(int f, int used, int take) {
            if (f == markFrame && used == markRoll) {
                mark = 1L << take;
            }
        }

        private void addToGroup(int state, int gain) {
            int i = state * GAINS + gain - LEAST_GAIN;
            if (i < 0 || i >= group.length) {
                return;
            }
            if (group[i] == 0 && groups < grouped.length) {
                grouped[groups] = i;
                groups++;
            }
            group[i] = counting ? group[i] + 1 : group[i] | mark;
        }

        private void moveGroup(int from, int i, boolean marked) {
            if (i < 0 || i >= group.length) {
                return;
            }
            int to = i / GAINS;
            int gain = i % GAINS + LEAST_GAIN;
            if (counting) {
                next.addCounts(now, from, to, gain, group[i]);
            } else {
                next.addMarks(now, from, to, gain, marked ? group[i] : 0);
            }
            group[i] = 0;
        }

        // ---- states

        private static int nextOf(int state) {
            return state < 0 || state >= STATES ? 0 : NEXT[state];
        }

        private static int fillsOf(int state) {
            if (state < 0 || state >= STATES) {
                return 0;
            }
            return Math.min(NEXT[state], 1) + Math.min(SECOND[state], 1) + THIRD[state];
        }

        /** What is earned still when one more roll is done. */
        private static int stateBehind(int state) {
            return state < 0 || state >= STATES ? 0 : stateOf(SECOND[state], THIRD[state], 0);
        }

        /** What is earned when one more frame earns some rolls. */
        private static int stateWith(int state, int earned) {
            if (state < 0 || state >= STATES) {
                return 0;
            }
            return stateOf(NEXT[state] + (earned > 0 ? 1 : 0), SECOND[state] + (earned > 1 ? 1 : 0),
                    THIRD[state] + (earned > 2 ? 1 : 0));
        }

        private static int stateOf(int next, int second, int third) {
            if (next < 0 || next >= STATE_OF_NEXT.length) {
                return 0;
            }
            return STATE_OF_NEXT[next] + (second == 0 ? 0 : 2 * second - 1 + third);
        }
    }

    /** Rows of counts or marks, each with the stretch in which it is not 0. */
    private static final class Span {
        private final int width;
        private long[] cells = new long[0];
        private final int[] lows;
        private final int[] highs;

        Span(int rows, int width) {
            this.width = Math.max(width, 0);
            lows = new int[Math.max(rows, 0)];
            highs = new int[lows.length];
            for (int row = 0; row < lows.length; row++) {
                lows[row] = this.width;
                highs[row] = NONE;
            }
        }

        /** The cells are made when they are first asked for: many an object never looks ahead. */
        void open() {
            if (cells.length == 0) {
                cells = new long[lows.length * width];
            }
        }

        private boolean isRow(int row) {
            return row >= 0 && row < lows.length && (row + 1) * width <= cells.length;
        }

        int low(int row) {
            return isRow(row) ? lows[row] : width;
        }

        int high(int row) {
            return isRow(row) ? highs[row] : NONE;
        }

        boolean isEmpty(int row) {
            return low(row) > high(row);
        }

        long value(int row, int t) {
            return isRow(row) && t >= 0 && t < width ? cells[row * width + t] : 0;
        }

        void set(int row, int t, long n) {
            if (isRow(row) && t >= 0 && t < width) {
                cells[row * width + t] = n;
                stretch(row, t, t);
            }
        }

        private void stretch(int row, int first, int last) {
            if (isRow(row)) {
                lows[row] = Math.min(lows[row], first);
                highs[row] = Math.max(highs[row], last);
            }
        }

        /** Whether a row of another can come into a row here, moved by a gain. */
        private boolean canTake(Span other, int from, int to, int gain) {
            return other.isRow(from) && isRow(to) && other.width == width
                    && other.lows[from] <= other.highs[from]
                    && other.lows[from] + gain >= 0 && other.highs[from] + gain < width;
        }

        /** Counts of a row come into another, moved by a gain, each so many times. */
        void addCounts(Span other, int from, int to, int gain, long times) {
            if (times <= 0 || !canTake(other, from, to, gain)) {
                return;
            }
            long whole = COUNT_MOST / times;
            int moved = to * width + gain;
            for (int t = other.lows[from]; t <= other.highs[from]; t++) {
                long held = other.cells[from * width + t];
                long more = held > whole ? COUNT_MOST : held * times;
                cells[moved + t] = Math.min(COUNT_MOST, cells[moved + t] + more);
            }
            stretch(to, other.lows[from] + gain, other.highs[from] + gain);
        }

        /** Marks of a row come into another, moved by a gain; marks, if not 0, stand in for each of them. */
        void addMarks(Span other, int from, int to, int gain, long marks) {
            if (!canTake(other, from, to, gain)) {
                return;
            }
            int moved = to * width + gain;
            for (int t = other.lows[from]; t <= other.highs[from]; t++) {
                long held = other.cells[from * width + t];
                if (held != 0) {
                    cells[moved + t] |= marks == 0 ? held : marks;
                }
            }
            stretch(to, other.lows[from] + gain, other.highs[from] + gain);
        }

        void wipe() {
            for (int row = 0; row < lows.length; row++) {
                int last = Math.min(high(row), width - 1);
                for (int t = Math.max(lows[row], 0); t <= last; t++) {
                    cells[row * width + t] = 0;
                }
                lows[row] = width;
                highs[row] = NONE;
            }
        }
    }

    /** The PLAYERS and their totals. */
    private static final class Roster {
        private static final int PLAYERS = 6;
        private static final int GAMES_MOST = 10;

        private final int[] totals = new int[PLAYERS * GAMES_MOST];
        private final int[] games = new int[PLAYERS];
        private final int[] handicaps = new int[PLAYERS];

        void forget() {
            for (int p = 0; p < PLAYERS; p++) {
                games[p] = 0;
            }
        }

        boolean knows(int p) {
            return p >= 0 && p < PLAYERS;
        }

        int gamesOf(int p) {
            return knows(p) ? games[p] : 0;
        }

        private int totalOf(int p, int game) {
            return game < 0 || game >= gamesOf(p) || game >= GAMES_MOST ? 0 : totals[p * GAMES_MOST + game];
        }

        int add(int p, int total) {
            int n = gamesOf(p);
            if (!knows(p) || n >= GAMES_MOST) {
                return NONE;
            }
            totals[p * GAMES_MOST + n] = total;
            games[p] = n + 1;
            return n + 1;
        }

        int sumOf(int p) {
            int sum = 0;
            for (int game = 0; game < gamesOf(p); game++) {
                sum += totalOf(p, game);
            }
            return sum;
        }

        int meanOf(int p) {
            int n = gamesOf(p);
            return n == 0 ? 0 : Math.floorDiv(sumOf(p), n);
        }

        int bestOf(int p) {
            int best = totalOf(p, 0);
            for (int game = 1; game < gamesOf(p); game++) {
                best = Math.max(best, totalOf(p, game));
            }
            return best;
        }

        /** To be called ahead of all that looks at handicaps: they are those of now. */
        void setHandicaps(Laws laws) {
            for (int p = 0; p < PLAYERS; p++) {
                handicaps[p] = laws.handicap(meanOf(p), gamesOf(p));
            }
        }

        int handicapOf(int p) {
            return knows(p) ? handicaps[p] : 0;
        }

        /** What the first has by the meeting of two. */
        int meeting(int first, int second) {
            int both = Math.min(gamesOf(first), gamesOf(second));
            int ahead = handicapOf(first) - handicapOf(second);
            int sum = 0;
            for (int game = 0; game < both; game++) {
                sum += 1 + Integer.signum(totalOf(first, game) + ahead - totalOf(second, game));
            }
            return sum;
        }

        /** What one has by the meetings with all others. */
        int gathered(int p) {
            int sum = 0;
            for (int other = 0; other < PLAYERS; other++) {
                sum += other == p ? 0 : meeting(p, other);
            }
            return sum;
        }

        int countAhead(int p) {
            int own = gathered(p);
            int ahead = 0;
            for (int other = 0; other < PLAYERS; other++) {
                ahead += gathered(other) > own ? 1 : 0;
            }
            return ahead;
        }
    }
}
