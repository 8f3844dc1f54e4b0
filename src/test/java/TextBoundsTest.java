import java.util.ArrayList;
import java.util.List;

/** Promises 4 to 6 and what the terms say of a GAME, at their bounds: statements, numbers, blanks, faults. */
public final class TextBoundsTest {
    private static final int MIN = Integer.MIN_VALUE;
    private static final int MAX = Integer.MAX_VALUE;
    private static final String STATEMENTS = "pins frames rolls clean foul worth handicap joins";
    private static final String SUM = "2 frame down used fouls mean games ( min max";
    private static final String FACT = SUM + " not [ all";
    private static final String SUM_GOES_ON = "+ - * / ";
    private static final String[] WORDS = ("pins frames rolls clean earns foul worth when handicap joins or and not all"
            + " frame down used fouls mean games min max").split(" ");
    private static final String[] OTHERS = {"2", ";", "<", ">", "=", "+", "-", "*", "/", "(", ")", "[", "]", ",",
        "x", "cow", "pin", "A", "_", ".", ":", "!", "{", "}", "\"", "\0", "\t", "\r", "\u007f", "\u0080", "\u00a0", "\u00ff"};

    private static void fault(String text, int kind, int place) {
        NinepinAlley x = new NinepinAlley();
        Check.due("game() of " + text, Check.game(x, text), -1);
        Check.due("fault(0) of " + text, x.fault(0), kind);
        Check.due("fault(1) of " + text, x.fault(1), place);
    }

    private static void good(String text, int statements) {
        NinepinAlley x = new NinepinAlley();
        Check.due("game() of " + text, Check.game(x, text), statements);
        Check.due("fault(0) of " + text, x.fault(0), 0);
        Check.due("fault(1) of " + text, x.fault(1), -1);
    }

    // ---- promise 4

    private static void howManyStatements() {
        Check.promise(4, "how many STATEMENTS");
        good("", 0);
        good(" ", 0);
        good("\n", 0);
        good(" \n".repeat(350), 0);
        for (int n = 1; n <= 30; n++) {
            good("foul 1;".repeat(n), n);
        }
        good(" ".repeat(693) + "pins 3;", 1);
        good("pins 3;" + " ".repeat(693), 1);
    }

    private static void theTapeGoes() {
        Check.promise(4, "The tape (it goes)");
        String[] texts = {"", "pins 3;", "pins 3", "pins 0;", "x"};
        for (String text : texts) {
            NinepinAlley x = new NinepinAlley();
            Check.game(x, text);
            Check.due("end(1) behind " + text, x.end(1), false);
            Check.due("an empty game is next", x.game(), 0);
            Check.due("of no fault", x.fault(0), 0);
        }
    }

    private static void allStays() {
        Check.promise(4, "NONE with a FAULT (all stays)");
        String[] texts = {"x", "pins 3", "frames 0;", "pins 3; frames 2; rolls 3; foul 9; clean 1 earns 1;"
            + "clean 3 earns 2; worth 7 when all; joins 0 2; handicap 50;?", "handicap (((((((", "foul 1;".repeat(31)};
        for (String text : texts) {
            NinepinAlley x = Made.torn();
            Check.due("game() of " + text, Check.game(x, text), -1);
            NinepinAlley other = Made.torn();
            other.end(0);
            State.alikeButForFaults("a fault at " + text, x, other);
            x = Made.halfway();
            Check.due("game() of " + text, Check.game(x, text), -1);
            Check.rolls(x, 1, 4);
            other = Made.halfway();
            Check.rolls(other, 1, 4);
            other.end(0);
            State.alikeButForFaults("rolls behind a fault at " + text, x, other);
        }
    }

    private static void allIsNew() {
        Check.promise(4, "Without one THE SHEET is empty, nothing is TORN, PLAYERS have none");
        NinepinAlley x = Made.torn();
        int images = x.image();
        Check.due("game()", Check.game(x, Made.LAWS), 11);
        NinepinAlley other = Made.whole();
        other.clear();
        for (int what = 0; what < 6; what++) {
            Check.due("sheet(" + what + ")", x.sheet(what), other.sheet(what));
        }
        for (int p = 0; p < 6; p++) {
            Check.due("player(" + p + ", 0)", x.player(p, 0), 0);
            Check.due("player(" + p + ", 1)", x.player(p, 1), 0);
            Check.due("player(" + p + ", 3)", x.player(p, 3), 12);
            Check.due("player(" + p + ", 4)", x.player(p, 4), 0);
            Check.due("player(" + p + ", 5)", x.player(p, 5), 0);
        }
        Check.due("the image is the latest still", x.octet(images - 1) != -1 && x.octet(images) == -1, true);
        Check.rolls(x, 1, 3, -2, 1, 4, 3, 1, -2);
        Check.due("nothing is torn", x.fits(0, true), 1);
        Check.promise(4, "The tape is the GAME: nothing is left of the one before");
        // an object without an image, so that it can look as a new one
        x = Check.of(Made.LAWS);
        Check.rolls(x, 1, 3, -2, 1, 4, 3, 1, -2);
        x.keep(3);
        x.tear(1, true);
        Check.due("game()", x.game(), 0);
        State.alike("an empty game behind another", x, new NinepinAlley());
        x = new NinepinAlley();
        Check.due("game() with a fault", Check.game(x, Made.LAWS + "?"), -1);
        Check.due("game()", x.game(), 0);
        State.alike("an empty game behind a fault", x, new NinepinAlley());
        x = Check.of(Made.LAWS);
        Check.due("game()", x.game(), 0);
        Check.due("game() once more", x.game(), 0);
        int[] rolls = {9, 9, 9, 9, 9, -2, 4};
        Check.rolls(x, rolls);
        other = new NinepinAlley();
        Check.rolls(other, rolls);
        State.alike("rolls behind two empty games", x, other);
    }

    /** Texts as long as can be, one behind another: none may find less room than the one before. */
    private static void longTexts() {
        Check.promise(4, "The tape is the GAME, though long texts were read before");
        NinepinAlley x = new NinepinAlley();
        String sum = "1" + "+1".repeat(340);
        for (int n = 1; n <= 4; n++) {
            Check.due("game() of a long sum", Check.game(x, "handicap " + sum + "-7;"), 1);
            Check.due("its handicap", x.player(0, 3), 99);
            Check.due("game() of a long fault", Check.game(x, "handicap " + sum + "?"), -1);
            Check.due("its fault", x.fault(0), 1);
            Check.due("its place", x.fault(1), 690);
        }
        x = new NinepinAlley();
        String test = "1=1" + " or 1=1".repeat(96);
        for (int n = 1; n <= 5; n++) {
            Check.due("game() of a long test", Check.game(x, "worth 5 when " + test + ";"), 1);
            Check.due("its worth", x.come(false), 30);
        }
        Check.promise(4, "nothing is left of the handicap of a game before");
        x = new NinepinAlley();
        Check.game(x, "handicap 7;");
        Check.game(x, "handicap 8;");
        Check.game(x, "worth 5 when all;");
        Check.due("no handicap", x.player(0, 3), 0);
        Check.game(x, "worth 6 when all; handicap 9;");
        Check.due("a handicap behind a worth", x.player(0, 3), 9);
        Check.game(x, "worth 5 when all;");
        Check.due("no handicap", x.player(0, 3), 0);
        Check.game(x, "joins 0 1;");
        Check.game(x, "joins 1 2;");
        Check.game(x, "joins 2 3;");
        Check.due("one join", x.has(8), 1);
        Check.due("no join of the games before", x.leaves(7), 3);
    }

    // ---- promise 5

    private static void ofTheLatestGame() {
        Check.promise(5, "Of the latest game(): its FAULT (0 without, and ahead of any), its place (NONE without)");
        NinepinAlley x = new NinepinAlley();
        Check.due("fault(0) ahead of any", x.fault(0), 0);
        Check.due("fault(1) ahead of any", x.fault(1), -1);
        Check.game(x, "pins 0;");
        Check.due("fault(0)", x.fault(0), 2);
        Check.due("fault(1)", x.fault(1), 5);
        Check.tape(x, 0, 78);
        Check.due("an image that is none", x.on(), false);
        x.feed(0, 0, 0, 0, 0);
        x.end(701);
        x.end(0);
        x.roll(77);
        x.clear();
        Check.due("fault(0) is that of game() alone", x.fault(0), 2);
        Check.due("fault(1) is that of game() alone", x.fault(1), 5);
        Check.game(x, "?");
        Check.due("fault(0) of the next", x.fault(0), 1);
        Check.due("fault(1) of the next", x.fault(1), 0);
        Check.game(x, "pins 1;");
        Check.due("fault(0) without one", x.fault(0), 0);
        Check.due("fault(1) without one", x.fault(1), -1);
        Check.promise(5, "NONE for another what");
        int[] never = {2, 3, -1, MAX, MIN};
        for (int what : never) {
            Check.due("fault(" + what + ")", x.fault(what), -1);
            State.stays("fault(" + what + ")", Made::torn, y -> Check.due("fault", y.fault(what), -1));
        }
    }

    // ---- promise 6

    private static void hasOthers() {
        Check.promise(6, "NONE for others");
        int[] never = {-1, 9, 10, MAX, MIN};
        for (int what : never) {
            Check.due("has(" + what + ")", new NinepinAlley().has(what), -1);
            State.stays("has(" + what + ")", Made::torn, x -> Check.due("has", x.has(what), -1));
        }
    }

    private static void has(String text, int what, int want) {
        NinepinAlley x = new NinepinAlley();
        Check.due("game() of " + text, Check.game(x, text) >= 0, true);
        int[] without = {9, 6, 2, 0, 0, 0, 0, 0, 0};
        for (int other = 0; other < without.length; other++) {
            Check.due("has(" + other + ") of " + text, x.has(other), other == what ? want : without[other]);
        }
    }

    private static void manyWorthsAndJoins() {
        Check.promise(6, "7 how many worths");
        for (int n = 0; n <= 30; n++) {
            has("worth 1 when all;".repeat(n), 7, n);
        }
        Check.promise(6, "8 joins (each two PINS once)");
        StringBuilder text = new StringBuilder();
        int n = 0;
        for (int one = 0; one < 9; one++) {
            for (int other = 0; other < one && n < 30; other++) {
                text.append("joins ").append(one).append(' ').append(other).append(';');
                n++;
                has(text.toString(), 8, n);
            }
        }
        has("joins 3 5; joins 5 3;", 8, 1);
        has("joins 3 5; joins 3 5; joins 5 4; joins 3 5;", 8, 2);
        has("joins 0 8; joins 8 0;", 8, 1);
    }

    // ---- numbers

    /** All numbers about the bounds of a place in a text; what: where has() tells it, NONE: nowhere. */
    private static void numbers(String before, String behind, int least, int most, int what) {
        int[] some = {0, 1, 2, 3, 4, 7, 8, 9, 10, 11, 12, 99, 100, 999, 1000, 9999};
        for (int n : some) {
            String[] writings = {"" + n, String.format("%02d", n), String.format("%04d", n)};
            for (String number : writings) {
                String text = before + number + behind;
                if (n < least || n > most) {
                    fault(text, 2, before.length());
                    fault(before + number, 2, before.length());
                    fault(before + number + "?", 2, before.length());
                } else if (what >= 0) {
                    has(text, what, n);
                } else {
                    good(text, 1);
                }
            }
        }
        fault(before + "-1" + behind, 1, before.length());
        fault(before + "10000" + behind, 1, before.length() + 4);
        fault(before + "00001" + behind, 1, before.length() + 4);
        fault(before + "00000", 1, before.length() + 4);
        fault(before + "123456789", 1, before.length() + 4);
        fault(before + behind.strip(), 1, before.length());
        fault(before, 1, before.length());
    }

    private static void numbersOfStatements() {
        Check.promise(6, "pins N (1 .. 9; 9 without)");
        numbers("pins ", ";", 1, 9, 0);
        Check.promise(6, "frames N (1 .. 8; 6 without)");
        numbers("frames ", ";", 1, 8, 1);
        Check.promise(6, "rolls N (1 .. 3; 2 without)");
        numbers("rolls ", ";", 1, 3, 2);
        Check.promise(6, "foul N (0 .. 10; 0 without)");
        numbers("foul ", ";", 0, 10, 3);
        Check.promise(6, "clean N earns N (1 .. 3, 0 .. 3; each 0 without)");
        numbers("clean ", " earns 0;", 1, 3, -1);
        numbers("clean 1 earns ", ";", 0, 3, 4);
        numbers("clean 2 earns ", ";", 0, 3, 5);
        numbers("clean 3 earns ", ";", 0, 3, 6);
        Check.promise(4, "joins N N (two unlike PINS, 0 .. 8)");
        for (int one = 0; one <= 8; one++) {
            for (int other = 0; other <= 8; other++) {
                if (one == other) {
                    fault("joins " + one + " " + other + ";", 2, 8);
                    fault("joins " + one + " 0" + other + ";", 2, 8);
                } else {
                    has("joins " + one + " " + other + ";", 8, 1);
                }
            }
            fault("joins " + one + " 9;", 2, 8);
            fault("joins 9 " + one + ";", 2, 6);
        }
        fault("joins 9 9;", 2, 6);
        fault("joins 0010 0010;", 2, 6);
        fault("joins 12345 0;", 1, 10);
        fault("joins 0 -1;", 1, 8);
    }

    private static void theLastOneCounts() {
        Check.promise(6, "Of pins, frames, rolls, clean with one first N, foul, handicap the last one counts");
        has("pins 3; pins 7;", 0, 7);
        has("pins 7; pins 3; pins 9;", 0, 9);
        has("frames 8; frames 1;", 1, 1);
        has("rolls 3; rolls 1;", 2, 1);
        has("foul 10; foul 0;", 3, 0);
        has("foul 0; foul 10;", 3, 10);
        has("clean 1 earns 3; clean 1 earns 1;", 4, 1);
        has("clean 2 earns 3; clean 2 earns 0;", 5, 0);
        has("clean 3 earns 0; clean 3 earns 3;", 6, 3);
        NinepinAlley x = Check.of("clean 3 earns 3; clean 1 earns 1; clean 2 earns 2;");
        for (int k = 1; k <= 3; k++) {
            Check.due("has(" + (3 + k) + ")", x.has(3 + k), k);
        }
        Check.due("the last handicap", Check.of("handicap 5; handicap 7;").player(0, 3), 7);
        Check.due("the last handicap", Check.of("handicap 7; worth 9 when all; handicap 0;").player(0, 3), 0);
        Check.due("0 without", Check.of("worth 9 when all;").player(0, 3), 0);
    }

    // ---- fault 1: what can go on, at every place of a text

    /** Behind a text (that ends with a blank) only the words, signs and numbers that are told can stand. */
    private static void follow(String before, String told, boolean canEnd) {
        List<String> can = List.of(told.split(" +"));
        List<String> all = new ArrayList<>(List.of(WORDS));
        all.addAll(List.of(OTHERS));
        for (String next : all) {
            NinepinAlley x = new NinepinAlley();
            String text = before + next;
            int got = Check.game(x, text);
            if (!can.contains(next)) {
                Check.due("game() of " + text, got, -1);
                Check.due("fault(0) of " + text, x.fault(0), 1);
                Check.due("fault(1) of " + text, x.fault(1), before.length());
            } else if (got == -1) {
                Check.due("fault(0) of " + text, x.fault(0), 1);
                Check.due("fault(1) of " + text, x.fault(1), text.length());
            } else {
                Check.due(text + " is a game by its ;", next.equals(";"), true);
            }
        }
        NinepinAlley x = new NinepinAlley();
        boolean ended = Check.game(x, before) >= 0;
        Check.due("a game ends with " + before, ended, canEnd);
        Check.due("fault(0) of " + before, x.fault(0), canEnd ? 0 : 1);
        Check.due("fault(1) of " + before, x.fault(1), canEnd ? -1 : before.length());
    }

    private static void followStatements() {
        Check.promise(5, "1 the first byte with which no GAME goes on; at the text's length, if it ends too soon");
        follow("", STATEMENTS, true);
        follow(" \n", STATEMENTS, true);
        follow("foul 1; ", STATEMENTS, true);
        String[] simple = {"pins", "frames", "rolls", "foul"};
        for (String word : simple) {
            follow(word + " ", "2", false);
            follow(word + " 2 ", ";", false);
        }
        follow("clean ", "2", false);
        follow("clean 1 ", "earns", false);
        follow("clean 1 earns ", "2", false);
        follow("clean 1 earns 0 ", ";", false);
        follow("joins ", "2", false);
        follow("joins 0 ", "2", false);
        follow("joins 0 1 ", ";", false);
    }

    private static void followSums() {
        Check.promise(5, "1 the first byte with which no GAME goes on: SUM");
        follow("handicap ", SUM, false);
        follow("handicap min ", "(", false);
        follow("handicap max ", "(", false);
        String[] parts = {"7", "9999", "frame", "down", "used", "fouls", "mean", "games", "(1)", "min(1,2)", "max(1,2)",
            "1 + 2", "1 - 2", "1 * 2", "1 / 2", "1+2*3/4-5"};
        for (String part : parts) {
            follow("handicap " + part + " ", SUM_GOES_ON + ";", false);
            follow("worth " + part + " ", SUM_GOES_ON + "when", false);
            follow("handicap ( " + part + " ", SUM_GOES_ON + ")", false);
            follow("handicap min ( " + part + " ", SUM_GOES_ON + ",", false);
            follow("handicap max ( 1 , " + part + " ", SUM_GOES_ON + ")", false);
        }
        String[] befores = {"+ ", "- ", "* ", "/ "};
        for (String sign : befores) {
            follow("handicap 1 " + sign, SUM, false);
        }
        follow("worth ", SUM, false);
        follow("handicap ( ", SUM, false);
        follow("handicap min ( ", SUM, false);
        follow("handicap max ( 1 , ", SUM, false);
    }

    private static void followTests() {
        Check.promise(5, "1 the first byte with which no GAME goes on: TEST");
        String[] starts = {"", "not ", "[ ", "not [ not ", "all and ", "all or ", "1 = 1 or ", "not all and "};
        for (String start : starts) {
            follow("worth 1 when " + start, FACT, false);
        }
        String[] facts = {"all", "not all", "not not all", "[all]", "[all or all]"};
        for (String fact : facts) {
            follow("worth 1 when " + fact + " ", "and or ;", false);
            follow("worth 1 when all and " + fact + " ", "and or ;", false);
            follow("worth 1 when [ " + fact + " ", "and or ]", false);
        }
        String[] signs = {"<", ">", "="};
        for (String sign : signs) {
            follow("worth 1 when 1 " + sign + " ", SUM, false);
            follow("worth 1 when 1 " + sign + " 2 ", SUM_GOES_ON + "and or ;", false);
            follow("worth 1 when [ (1) " + sign + " (2) ", SUM_GOES_ON + "and or ]", false);
            follow("worth 1 when not 1 " + sign + " 2 ", SUM_GOES_ON + "and or ;", false);
        }
        follow("worth 1 when 1 ", SUM_GOES_ON + "< > =", false);
        follow("worth 1 when ( 1 ", SUM_GOES_ON + ")", false);
        follow("worth 1 when ( 1 ) ", SUM_GOES_ON + "< > =", false);
    }

    // ---- words and numbers whole

    /** A text behind which a word may stand. */
    private static String ahead(String word) {
        switch (word) {
            case "earns":
                return "clean 1 ";
            case "when":
                return "worth 1 ";
            case "or":
            case "and":
                return "worth 1 when all ";
            case "not":
            case "all":
                return "worth 1 when ";
            default:
                return List.of(STATEMENTS.split(" ")).contains(word) ? "" : "handicap ";
        }
    }

    private static void wordsWhole() {
        Check.promise(5, "words and numbers whole, at their first byte");
        for (String word : WORDS) {
            String before = ahead(word);
            fault(before + word, 1, before.length() + word.length());
            // frames and fouls are words themselves, but can't stand where frame and foul can
            fault(before + word + "s", 1, before.length());
            fault(before + word + "x", 1, before.length());
            fault(before + "x" + word, 1, before.length());
            fault(before + word + word, 1, before.length());
            fault(before + word.substring(1), 1, before.length());
            fault(before + word.substring(0, word.length() - 1), 1, before.length());
            fault(before + word.substring(0, 1) + " " + word.substring(1), 1, before.length());
            fault(before + word.substring(0, 1).toUpperCase() + word.substring(1), 1, before.length());
        }
    }

    private static void besideOneAnother() {
        Check.promise(4, "words and numbers side by side need one");
        fault("pins3;", 1, 4);
        fault("frames3;", 1, 6);
        fault("rolls3;", 1, 5);
        fault("foul3;", 1, 4);
        fault("clean1 earns 1;", 1, 5);
        fault("clean 1earns 1;", 1, 7);
        fault("clean 1 earns1;", 1, 13);
        fault("joins0 1;", 1, 5);
        fault("joins 01;", 1, 8);
        fault("worth1 when all;", 1, 5);
        fault("worth 1when all;", 1, 7);
        fault("worth 1 when1 = 1;", 1, 12);
        fault("worth 1 when 1 = 1and all;", 1, 18);
        fault("worth 1 when 1 = 1or all;", 1, 18);
        fault("worth 1 when all or1 = 1;", 1, 19);
        fault("worth 1 when all and1 = 1;", 1, 20);
        fault("worth 1 when not1 = 1;", 1, 16);
        fault("worth downwhen all;", 1, 6);
        fault("handicap1;", 1, 8);
        fault("handicapmean;", 1, 0);
        // a sign between, or a blank of either kind, is enough
        good("pins\n3;", 1);
        good("pins 3;frames 3;rolls\n3;foul 3;clean\n1\nearns\n1;joins\n0\n1;", 6);
        good("worth(1)when[1=1]or[all]and not(1)<2;", 1);
        good("worth min(1,2)when 1>2-1;", 1);
        good("worth 1+2*3/4 when not[all];", 1);
        good("handicap(mean);", 1);
        good("handicap min (1 , 2) + max\n( mean\n,\ngames\n) ;", 1);
    }

    private static void blanks() {
        Check.promise(4, "blanks (10, 32) between where one likes");
        for (int b = 0; b < 256; b++) {
            char c = (char) b;
            boolean letter = c >= 'a' && c <= 'z';
            boolean digit = c >= '0' && c <= '9';
            if (b == 10 || b == 32) {
                good("pins" + c + "3;", 1);
                good(c + "pins 3" + c + ";" + c, 1);
                good("" + c + c + c, 0);
            } else {
                fault("pins" + c + "3;", 1, letter ? 0 : 4);
                if (!digit) {
                    fault("pins " + c + "3;", 1, 5);
                }
                if (!digit && c != ';') {
                    fault("pins 3" + c + ";", 1, 6);
                }
                fault("" + c, 1, 0);
                fault("pins 3;" + c, 1, 7);
            }
        }
        fault("pi ns 3;", 1, 0);
        fault("pins 1 2;", 1, 7);
        fault("joins 1 2 3;", 1, 10);
        fault("joins 12;", 2, 6);
    }

    private static void textsEnd() {
        Check.promise(5, "at the text's length, if it ends too soon");
        String text = "clean 2 earns 3;\nworth min(1,2)*3-down/(4) when not[frame<2 and all]or used>1; joins 0 1;";
        good(text, 3);
        for (int n = 1; n < text.length(); n++) {
            int first = n;
            // a word that is cut is another word, told at its first byte
            while (Character.isLetter(text.charAt(n)) && first > 0 && Character.isLetter(text.charAt(first - 1))) {
                first--;
            }
            String cut = text.substring(0, n);
            if (cut.stripTrailing().endsWith(";")) {
                good(cut, n < 20 ? 1 : 2);
            } else {
                fault(cut, 1, first);
            }
        }
        fault(" ".repeat(694) + "pins 3", 1, 700);
        fault("pins" + " ".repeat(696), 1, 700);
        fault(" ".repeat(699) + "?", 1, 699);
        fault("pins 3;".repeat(30) + " ".repeat(489) + "p", 5, 699);
    }

    // ---- faults 4 and 5, and which is the first

    private static final String[] OPENERS = {"not ", "[", "(", "min(", "max ("};

    /** All ways to open so many; the last one opened is where a 7th is told. */
    private static void open(String text, int opened, int most, int from) {
        for (int k = from; k < OPENERS.length; k++) {
            String next = text + OPENERS[k];
            int place = k == 0 ? text.length() : next.length() - 1;
            if (opened + 1 == 7) {
                fault(next, 4, place);
            } else if (opened + 1 == most) {
                fault(next + "1", 1, next.length() + 1);
            } else {
                // behind not and [ all can be opened, behind the others sums alone
                open(next, opened + 1, most, k < 2 ? 0 : 2);
            }
        }
    }

    private static void seventhOpen() {
        Check.promise(5, "4 the 7th ( [ not that is open at once (not until its FACT ends), at it");
        open("worth 1 when ", 0, 6, 0);
        open("worth 1 when ", 0, 7, 0);
        open("handicap ", 0, 6, 2);
        open("handicap ", 0, 7, 2);
        Check.promise(5, "4: what is closed is not open");
        good("handicap ((((((1)))))) + ((((((1))))));", 1);
        fault("handicap (((((min(1,max(2,3)))))));", 4, 23);
        good("handicap (((((min(1,2)+max(2,3)+(4))))));", 1);
        fault("handicap min(((((1))))),(((((1))))));", 1, 22);
        good("handicap min((((((1))))),(((((1))))));", 1);
        fault("handicap min((((((1))))),((((((1", 4, 30);
        good("worth 1 when [[[[[[all]]]]]] and [[[[[[all]]]]]];", 1);
        good("worth 1 when [[[[[[all or all] and all]]]]] or [[[[[not all]]]]];", 1);
        good("worth 1 when not not not not not not all or not not not not not not all;", 1);
        good("worth 1 when not not not not not (1)=(2) and not not not not not not 1=2;", 1);
        fault("worth 1 when not not not not not not 1=(", 4, 39);
        fault("worth 1 when not not not not not not (", 4, 37);
        fault("worth 1 when not not not not not not min(", 4, 40);
        good("worth 1 when [not all and not all and not all and not all and not all and not all and not all];", 1);
        fault("worth 1 when [not all and not not not not not not", 4, 46);
        good("worth (1) when not(1)=(1)and(1)=(1);", 1);
        fault("worth ((((((1)))))) when (((((((", 4, 31);
        good("worth ((((((1)))))) when ((((((1))))))=((((((1))))));", 1);
        // where it can't stand, it is no 7th that is open
        fault("handicap ((((((1(", 1, 16);
        fault("handicap ((((((1 not", 1, 17);
        fault("handicap ((((((not", 1, 15);
        fault("handicap (((((([", 1, 15);
        fault("worth 1 when [[[[[[all [", 1, 23);
        fault("worth 1 when [[[[[[all not", 1, 23);
        fault("worth 1 when [[[[[[nots", 1, 19);
    }

    private static void thirtyFirst() {
        Check.promise(5, "5 a 31st STATEMENT, at its first byte (whatever stands there)");
        String thirty = "pins 1;".repeat(30);
        good(thirty, 30);
        good(thirty + "\n \n", 30);
        for (int b = 0; b < 256; b++) {
            if (b != 10 && b != 32) {
                fault(thirty + (char) b, 5, 210);
                fault(thirty + " \n" + (char) b, 5, 212);
                fault("pins 1;".repeat(29) + (char) b, 1, 203);
            }
        }
        fault(thirty + "pins 1;", 5, 210);
        fault(thirty + "pins 99999;", 5, 210);
        fault(thirty + "worth ((((((((", 5, 210);
        fault("pins 1;".repeat(29) + "pins 0;x", 2, 208);
        fault("pins 1;".repeat(29) + "pins 1", 1, 209);
        fault("pins 1;".repeat(29) + "handicap (((((((", 4, 218);
        fault("pins 1;".repeat(29) + "pins 1?", 1, 209);
    }

    private static void theFirst() {
        Check.promise(5, "FAULTS, the first along the text");
        fault("pins 0; frames 0;", 2, 5);
        fault("pins 3; frames 9; rolls", 2, 15);
        fault("x pins 0;", 1, 0);
        fault("pins 3 0;", 1, 7);
        fault("pins 0 0;", 2, 5);
        fault("pins 12345 0;", 1, 9);
        fault("joins 9 12345;", 2, 6);
        fault("joins 1 12345;", 1, 12);
        fault("joins 1 11111;", 1, 12);
        fault("clean 4 earn 9;", 2, 6);
        fault("clean 3 earn 9;", 1, 8);
        fault("handicap (((((((12345", 4, 15);
        fault("handicap ((((((12345(", 1, 19);
        fault("handicap ((((((1+((", 4, 17);
        fault("worth 1 when [[[[[[[ ?", 4, 19);
        fault("worth 1 ? when [[[[[[[", 1, 8);
    }

    public static void main(String[] args) {
        howManyStatements();
        theTapeGoes();
        allStays();
        allIsNew();
        longTexts();
        ofTheLatestGame();
        hasOthers();
        manyWorthsAndJoins();
        numbersOfStatements();
        theLastOneCounts();
        followStatements();
        followSums();
        followTests();
        wordsWhole();
        besideOneAnother();
        blanks();
        textsEnd();
        seventhOpen();
        thirtyFirst();
        theFirst();
        Check.end();
    }
}
