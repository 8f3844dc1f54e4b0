/** What the terms say of SUM, TEST and WORTH, at their bounds (promises 4 and 13: worth; 26: handicap). */
public final class SumBoundsTest {
    /** Whether a test holds for a frame of one roll that takes none, told by points and by what is to come. */
    private static void holds(String test, boolean want) {
        NinepinAlley x = Check.of("frames 1; rolls 1; pins 1; worth 5 when " + test + ";");
        Check.rolls(x, 0);
        Check.due("worth 5 when " + test, x.points(0), want ? 5 : 0);
    }

    /** What a sum comes to, -20 .. 20. */
    private static void sum(String sum, int want) {
        NinepinAlley x = Check.of("frames 1; rolls 1; pins 1; worth " + sum + " when all;");
        Check.rolls(x, 0);
        Check.due("worth " + sum, x.points(0), want);
        Check.due("worth " + sum + ", total", x.total(), want);
    }

    private static void same(String one, String other) {
        holds(one + " = " + other, true);
        holds(one + " < " + other, false);
        holds(one + " > " + other, false);
    }

    private static void less(String one, String other) {
        holds(one + " < " + other, true);
        holds(one + " = " + other, false);
        holds(one + " > " + other, false);
        holds(other + " > " + one, true);
        holds(other + " < " + one, false);
    }

    private static void million() {
        Check.promise(13, "each sum, difference, product above 10 to the 6 is that");
        String most = "1000*1000";
        less("999*1001", most);
        same("999*1001+1", most);
        same("999*1001+2", most);
        same("1000*1000+1", most);
        same("1000*1000+9999", most);
        same("1000*1000+1000*1000", most);
        same("1000*1000-(0-1)", most);
        same("999*1001-(0-1)", most);
        same("999*1001-(0-2)", most);
        same("1001*1000", most);
        same("9999*9999", most);
        same("(0-9999)*(0-9999)", most);
        same("1000*1000*1000", most);
        same("9999*9999*9999*9999", most);
        same("9999*9999*9999*9999*9999*9999", most);
        less("1000*1000+1-1", most);
        less("1000*1000+5-1", most);
        same("1001*1000/1001", "999");
        same("1000*1000/1000", "1000");
        Check.promise(13, "below -10 to the 6 likewise");
        String least = "0-1000*1000";
        less(least, "(0-999)*1001");
        same("(0-999)*1001-1", least);
        same("(0-999)*1001-2", least);
        same("0-1000*1000-1", least);
        same("0-1000*1000-9999", least);
        same("0-1000*1000-1000*1000", least);
        same("(0-1000*1000)+(0-1)", least);
        same("(0-1000)*1000", least);
        same("(0-1001)*1000", least);
        same("1001*(0-1000)", least);
        same("(0-9999)*9999", least);
        same("(0-9999)*9999*9999*9999", least);
        same("(0-9999)*9999*(0-9999)", most);
        less(least, "0-1000*1000-1+1");
        less(least, "0-1000*1000-5+1");
        Check.promise(13, "numbers of 1 to 4 digits");
        same("9999+1", "100*100");
        same("0000", "0");
        same("0010", "10");
        less("0", "0001");
    }

    private static void quotients() {
        Check.promise(13, "/ gives the greatest whole number not above");
        int[] some = {0, 1, 2, 3, 4, 5, 6, 7, 11, 12, 13};
        for (int a : some) {
            for (int b : some) {
                if (b != 0) {
                    sum(a + "/" + b, Math.floorDiv(a, b));
                    sum("(0-" + a + ")/" + b, Math.floorDiv(-a, b));
                    sum(a + "/(0-" + b + ")", Math.floorDiv(a, -b));
                    sum("(0-" + a + ")/(0-" + b + ")", Math.floorDiv(-a, -b));
                }
            }
        }
        same("0-1000*1000/1", "0-1000*1000");
        same("(0-1000*1000)/(0-1)", "1000*1000");
        same("1/1000/1000", "0");
        same("(0-1)/(1000*1000)", "0-1");
        Check.promise(13, "by 0 it gives 0");
        String[] zeros = {"0", "0000", "(0-0)", "(1-1)", "fouls", "mean", "games", "down", "(0/5)", "(1/2)"};
        for (String by : zeros) {
            sum("7/" + by, 0);
            sum("0/" + by, 0);
            sum("(0-7)/" + by, 0);
            sum("3+7/" + by, 3);
            sum("7/" + by + "*5+2", 2);
        }
    }

    private static void fromTheLeft() {
        Check.promise(13, "All from the left on");
        sum("9-3-2", 4);
        sum("9-3+2", 8);
        sum("9+3-2", 10);
        sum("9-(3-2)", 8);
        sum("18/3/2", 3);
        sum("18/(3/2)", 18);
        sum("7/2*2", 6);
        sum("7*2/2", 7);
        sum("2*7/4*3", 9);
        sum("1+2*3", 7);
        sum("(1+2)*3", 9);
        sum("2*3+1", 7);
        sum("9-4/2", 7);
        sum("9-2*3-1", 2);
        sum("min(3,5)", 3);
        sum("min(5,3)", 3);
        sum("max(3,5)", 5);
        sum("max(5,3)", 5);
        sum("min(4,4)+max(4,4)", 8);
        sum("min(0-3,2)", -3);
        sum("max(0-3,0-2)", -2);
        sum("min(1+2*3,9-1)-max(2,min(3,1))", 5);
        same("min(1000*1000,1)", "1");
        same("max(1000*1000,1)", "1000*1000");
        Check.promise(13, "TEST: BOTH { or BOTH }; BOTH: FACT { and FACT }; not FACT; [ TEST ]; all");
        holds("all", true);
        holds("not all", false);
        holds("not not all", true);
        holds("not not not not not not all", true);
        String[][] facts = {{"all", "not all"}, {"1 < 2", "2 < 1"}, {"2 > 1", "1 > 2"}, {"1 = 1", "1 = 2"}};
        for (int n = 0; n < 32; n++) {
            int bits = n % 8;
            boolean a = (bits & 1) == 0;
            boolean b = (bits & 2) == 0;
            boolean c = (bits & 4) == 0;
            String x = facts[n / 8][bits & 1];
            String y = facts[(n / 8 + 1) % 4][bits >> 1 & 1];
            String z = facts[(n / 8 + 2) % 4][bits >> 2 & 1];
            holds(x + " or " + y + " and " + z, a || b && c);
            holds(x + " and " + y + " or " + z, a && b || c);
            holds("[" + x + " or " + y + "] and " + z, (a || b) && c);
            holds(x + " and [" + y + " or " + z + "]", a && (b || c));
            holds("not " + x + " or " + y, !a || b);
            holds("not " + x + " and " + y, !a && b);
            holds("not [" + x + " or " + y + "] or " + z, !(a || b) || c);
            holds("not [" + x + " and " + y + "]", !(a && b));
            holds(x + " and " + y + " and " + z, a && b && c);
            holds(x + " or " + y + " or " + z, a || b || c);
        }
        holds("not 1 = 2 and 1 = 1", true);
        holds("not 1 = 1 or 1 = 1", true);
    }

    private static void worths() {
        Check.promise(13, "WORTH: the SUM, -20 .. 20 (below is -20, above 20)");
        int[] some = {0, 1, 18, 19, 20, 21, 22, 9999};
        for (int n : some) {
            sum("" + n, Math.min(n, 20));
            sum("0-" + n, Math.max(-n, -20));
        }
        sum("9999*9999", 20);
        sum("0-9999*9999", -20);
        Check.promise(13, "of the first worth whose TEST holds");
        sum("1 when not all; worth 2 when all; worth 3", 2);
        sum("1 when all; worth 2 when all; worth 3", 1);
        sum("1 when not all; worth 2 when not all; worth 3", 3);
        sum("0 when all; worth 2", 0);
        NinepinAlley x = Check.of("pins 1; frames 1; rolls 1;" + "worth 1 when not all;".repeat(26) + "worth 9 when all;");
        Check.rolls(x, 1);
        Check.due("the last of 30 statements", x.points(0), 10);
        // six brackets open, each with a sum and a product that wait, behind as many worths as the text has room for
        String deep = "1+1*(1+1*(1+1*(1+1*(1+1*(1+1*(2))))))";
        String many = "pins 1;frames 1;" + "worth 1 when 1=2;".repeat(27);
        x = Check.of(many + "worth " + deep + " when all;");
        Check.rolls(x, 0, 0);
        Check.due("a deep sum behind many worths", x.points(0), 8);
        x = Check.of(many + "worth 5 when " + deep + " = 8;");
        Check.rolls(x, 0, 0);
        Check.due("a deep test behind many worths", x.points(0), 5);
        Check.promise(26, "HANDICAP: its SUM");
        x = Check.of(many + "handicap " + deep + ";");
        Check.due("a deep handicap behind many worths", x.player(0, 3), 8);
        Check.promise(13, "0 without one");
        holds("not all", false);
        holds("down > 0", false);
        Check.due("no worth", new NinepinAlley().come(false), 0);
    }

    /** A frame with so many takes and fouls, and what each word is in it. */
    private static void facts(String laws, int f, int frame, int down, int used, int fouls, int... rolls) {
        String[] words = {"frame", "down", "used", "fouls", "mean", "games"};
        int[] due = {frame, down, used, fouls, 0, 0};
        for (int i = 0; i < words.length; i++) {
            NinepinAlley x = Check.of(laws + "worth " + words[i] + " when all;");
            Check.rolls(x, rolls);
            Check.due("worth " + words[i] + " of frame " + f, x.points(f), down + due[i]);
            x = Check.of(laws + "worth 7 when " + words[i] + " = " + due[i] + ";");
            Check.rolls(x, rolls);
            Check.due("worth 7 when " + words[i] + " = " + due[i], x.points(f), down + 7);
        }
    }

    private static void factsOfFrames() {
        Check.promise(13, "frame: its number, from 1 on; down, used, fouls; mean, games: 0");
        facts("frames 1; rolls 1;", 0, 1, 0, 1, 0, 0);
        facts("frames 1; rolls 1;", 0, 1, 0, 1, 1, -2);
        facts("frames 1; rolls 1;", 0, 1, 9, 1, 0, 9);
        facts("frames 1; rolls 3;", 0, 1, 9, 1, 0, 9);
        facts("frames 1; rolls 3;", 0, 1, 9, 3, 1, 4, -2, 5);
        facts("frames 1; rolls 3;", 0, 1, 0, 3, 3, -2, -2, -2);
        facts("frames 1; rolls 3;", 0, 1, 3, 3, 0, 1, 1, 1);
        facts("frames 2; rolls 2;", 1, 2, 9, 2, 1, 3, 3, -2, 9);
        facts("frames 8; rolls 1;", 7, 8, 4, 1, 0, 0, 0, 0, 0, 0, 0, 0, 4);
        facts("frames 8; rolls 1;", 0, 1, 4, 1, 0, 4);
        // what is earned is no part of down, and fouls of other frames none of fouls
        facts("frames 2; rolls 2; pins 3; clean 1 earns 2;", 1, 2, 1, 2, 0, 3, 0, 1);
        NinepinAlley x = Check.of("frames 2; rolls 2; pins 3; clean 1 earns 2; worth down + 10 * fouls when all;");
        Check.rolls(x, 3, -2, 1);
        Check.due("3 + 1 earned + worth 3", x.points(0), 7);
        Check.due("1 + worth 11", x.points(1), 12);
    }

    /** Each frame there can be: its number, what falls, its rolls and fouls, all told apart by its worth. */
    private static void everyFrame() {
        Check.promise(13, "WORTH of each number, down, used and fouls");
        String sum = "frame*17+down*5+used*11+fouls*7";
        for (int rolls = 1; rolls <= 3; rolls++) {
            String laws = "frames 8; rolls " + rolls + "; worth " + sum + "-(" + sum + ")/41*41-20 when all;";
            int kinds = (int) Math.pow(11, rolls);
            for (int kind = 0; kind < kinds; kind++) {
                frames(laws, rolls, kind, kinds);
            }
        }
    }

    /** Eight frames, each of another kind: its digits to the base of 11 are its takes, 10 a foul. */
    private static void frames(String laws, int rolls, int kind, int kinds) {
        NinepinAlley x = Check.of(laws);
        for (int f = 0; f < 8; f++) {
            int down = 0;
            int used = 0;
            int fouls = 0;
            int digits = (kind + f * 7) % kinds;
            while (used < rolls && down < 9) {
                int digit = digits % 11;
                int take = digit == 10 ? -2 : Math.min(digit, 9 - down);
                Check.due("roll(" + take + ")", x.roll(take), true);
                down += Math.max(take, 0);
                fouls += take == -2 ? 1 : 0;
                used++;
                digits /= 11;
            }
            int sum = (f + 1) * 17 + down * 5 + used * 11 + fouls * 7;
            Check.due("points of frame " + f + ": " + down + ", " + used + ", " + fouls, x.points(f), down + sum % 41 - 20);
        }
    }

    public static void main(String[] args) {
        million();
        quotients();
        fromTheLeft();
        worths();
        factsOfFrames();
        everyFrame();
        Check.end();
    }
}
