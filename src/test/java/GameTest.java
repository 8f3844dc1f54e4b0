import java.nio.charset.StandardCharsets;

/** Promises 1 to 6: a new object, the tape, games and their faults. */
public final class GameTest {
    private static void fault(String text, int kind, int place) {
        NinepinAlley x = new NinepinAlley();
        Check.due("game() of " + text, Check.game(x, text), -1);
        Check.due("fault(0) of " + text, x.fault(0), kind);
        Check.due("fault(1) of " + text, x.fault(1), place);
    }

    private static void good(String text, int statements) {
        NinepinAlley x = new NinepinAlley();
        Check.due("game() of " + text, Check.game(x, text), statements);
        Check.due("fault(0) of " + text, x.fault(0), 0);
        Check.due("fault(1) of " + text, x.fault(1), -1);
    }

    /** The worth of a frame in which so many fall by one roll of several. */
    private static void worth(String sumAndTest, int down, int want) {
        NinepinAlley x = Check.of("frames 1; rolls 1; worth " + sumAndTest + ";");
        Check.rolls(x, down);
        Check.due("worth " + sumAndTest + " of " + down, x.points(0), want + down);
    }

    private static void promise1() {
        NinepinAlley x = new NinepinAlley();
        int[] has = {9, 6, 2, 0, 0, 0, 0, 0, 0};
        for (int i = 0; i < has.length; i++) {
            Check.due("new has " + i, x.has(i), has[i]);
        }
        Check.due("new fault", x.fault(0), 0);
        Check.due("new fault place", x.fault(1), -1);
        Check.due("new sheet", x.sheet(0), 0);
        Check.due("new octet", x.octet(0), -1);
        Check.due("new end(0)", x.end(0), true);
        Check.due("new end(1)", x.end(1), false);
        for (int p = 0; p < 6; p++) {
            Check.due("new player", x.player(p, 0), 0);
        }
        Check.due("NONE", NinepinAlley.NONE, -1);
        Check.due("FOUL", NinepinAlley.FOUL, -2);
    }

    private static void promises2And3() {
        NinepinAlley x = new NinepinAlley();
        for (int n = 1; n <= 35; n++) {
            Check.due("feed", x.feed(0x20202020, 0x20202020, 0x20202020, 0x20202020, 0x20202020), 20 * n);
        }
        Check.due("feed of 720", x.feed(0, 0, 0, 0, 0), -1);
        Check.due("end(701)", x.end(701), false);
        Check.due("end(-1)", x.end(-1), false);
        Check.due("end(min)", x.end(Integer.MIN_VALUE), false);
        Check.due("end(700)", x.end(700), true);
        Check.due("end(681)", x.end(681), true);
        Check.due("feed of 701", x.feed(0, 0, 0, 0, 0), -1);
        Check.due("end(682)", x.end(682), false);
        Check.due("end(680)", x.end(680), true);
        Check.due("feed of 700", x.feed(0x20202020, 0x20202020, 0x20202020, 0x20202020, 0x2020203B), 700);
        Check.due("game of blanks and a sign", x.game(), -1);
        Check.due("its place", x.fault(1), 699);
        Check.due("the tape went", x.end(1), false);
        // the highest byte of each number first, negative numbers too
        x.feed(0x02C8020F, 0, 0, 0, 0);
        x.end(4);
        Check.due("on", x.on(), true);
        Check.due("rolled(0)", x.rolled(0), -2);
        Check.due("rolled(1)", x.rolled(1), 2);
        x.feed(0x01FFFFFF, -1, -1, -1, -1);
        x.end(2);
        Check.due("on of 1, 255", x.on(), false);
    }

    private static void promise4() {
        good("", 0);
        good(" \n ", 0);
        good("pins 3;", 1);
        good("pins 3;pins\n4 ;\n", 2);
        good("pins 0009;", 1);
        good("worth(1+2)*3-4/5 when[all]or not all and 1<2;", 1);
        good("worth min(1,max(2,3)) when frame>down or used=fouls and mean<games;", 1);
        good("handicap((((((1))))));", 1);
        good("handicap min(1,2)+min(3,(4))*(5);", 1);
        good("worth 1 when not not not not not not all and not not not not not not all;", 1);
        good("worth 1 when [[[[[[all]]]]]];", 1);
        good("worth 1 when not[not[not(1)=1]]and[[[not not not all]]];", 1);
        good("pins 1;".repeat(30), 30);
        NinepinAlley x = Check.of("frames 1; rolls 1;");
        Check.rolls(x, 5);
        x.keep(0);
        x.tear(0, true);
        Check.due("fits", x.fits(0, true), 10);
        Check.due("game with a fault", Check.game(x, "pins 3"), -1);
        Check.due("all stays: has", x.has(1), 1);
        Check.due("all stays: sheet", x.total(), 5);
        Check.due("all stays: torn", x.fits(0, true), 10);
        Check.due("all stays: players", x.player(0, 1), 5);
        Check.due("the fault", x.fault(0), 1);
        Check.due("the next game", Check.game(x, "frames 1; rolls 1;"), 2);
        Check.due("no fault", x.fault(0), 0);
        Check.due("its place", x.fault(1), -1);
        Check.due("empty sheet", x.sheet(0), 0);
        Check.due("players have none", x.player(0, 0), 0);
        Check.rolls(x, 5);
        Check.due("nothing is torn", x.fits(0, true), 1);
        Check.due("an empty game", x.game(), 0);
        Check.due("has its frames", x.has(1), 6);
    }

    private static void promise5() {
        NinepinAlley x = new NinepinAlley();
        Check.due("fault(2)", x.fault(2), -1);
        Check.due("fault(-1)", x.fault(-1), -1);
        // kind 1
        fault("pin", 1, 0);
        fault("pinss 3;", 1, 0);
        fault("frame 3;", 1, 0);
        fault("Pins 3;", 1, 0);
        fault("pins", 1, 4);
        fault("pins  ", 1, 6);
        fault("pins 3", 1, 6);
        fault("pins 3 \n", 1, 8);
        fault("pins3;", 1, 4);
        fault("pins10;", 1, 4);
        fault("pins 3frames 2;", 1, 6);
        fault("pins 12345;", 1, 9);
        fault("pins 00001;", 1, 9);
        fault("12345", 1, 0);
        fault("pins 3,", 1, 6);
        fault("pins\t3;", 1, 4);
        fault("pins 3;;", 1, 7);
        fault("pins 3; pins x;", 1, 13);
        fault("clean 1 earn 2;", 1, 8);
        fault("clean 1earns 2;", 1, 7);
        fault("joins 01;", 1, 8);
        fault("joins 0,1;", 1, 7);
        fault("worth 1 when all or;", 1, 19);
        fault("worth 1 when all all;", 1, 17);
        fault("worth 1 when [all;", 1, 17);
        fault("worth 1 when all];", 1, 16);
        fault("worth 1 when (all);", 1, 14);
        fault("worth 1 when [1] = 1;", 1, 15);
        fault("worth 1 when 1 = 1 = 1;", 1, 19);
        fault("worth 1 when 5not all;", 1, 14);
        fault("worth -1 when all;", 1, 6);
        fault("worth 1+ when all;", 1, 9);
        fault("worth (1 when all;", 1, 9);
        fault("worth min(1) when all;", 1, 11);
        fault("worth min(1,2,3) when all;", 1, 13);
        fault("worth 12345 when all;", 1, 10);
        fault("handicap 1 when all;", 1, 11);
        fault("handicap all;", 1, 9);
        fault("foul 1 \u00e9", 1, 7);
        fault("handicap;", 1, 8);
        fault("handicap 1+;", 1, 11);
        fault("handicap 1*;", 1, 11);
        fault("worth 1 when;", 1, 12);
        fault("worth 1 when all and;", 1, 20);
        fault("worth 1 when not;", 1, 16);
        fault("worth 1 when 1=;", 1, 15);
        // kind 2
        fault("pins 0", 2, 5);
        fault("pins 9999;", 2, 5);
        fault("pins 10x", 2, 5);
        fault("frames 0;", 2, 7);
        fault("rolls 0;", 2, 6);
        fault("clean 0 earns 1;", 2, 6);
        fault("clean 3 earns 4;", 2, 14);
        fault("foul 0011;", 2, 5);
        fault("joins 9 9;", 2, 6);
        fault("joins 0 9;", 2, 8);
        fault("joins 8 08;", 2, 8);
        // kind 4
        fault("handicap ((((((min(1,2;", 4, 18);
        fault("handicap min((((((1", 1, 19);
        fault("handicap min(((((((1", 4, 18);
        fault("worth 1 when not[not[not[(1)=1]]];", 4, 25);
        fault("worth 1 when not[not[not(1)=1;", 1, 29);
        fault("worth 1 when [[[[[[not", 4, 19);
        fault("worth 1 when [[[[[[(", 4, 19);
        fault("worth 1 when not not not not not not [", 4, 37);
        fault("worth 1 when ((((((1 (", 1, 21);
        // kind 5
        fault("pins 1;".repeat(30) + "pins 1;", 5, 210);
        fault("pins 1;".repeat(30) + " \n?", 5, 212);
        fault("pins 1;".repeat(30) + "7", 5, 210);
        fault("pins 1;".repeat(29) + "pins 1", 1, 209);
        good("pins 1;".repeat(30) + " \n", 30);
    }

    /** Bytes that were on the tape behind its end are no part of a text. */
    private static void bytesBehindTheEnd() {
        NinepinAlley x = new NinepinAlley();
        byte[] text = "pins 3;frames 2;fram".getBytes(StandardCharsets.ISO_8859_1);
        for (int length = 0; length <= 20; length++) {
            Check.tape(x, text);
            Check.due("end", x.end(length), true);
            boolean whole = length == 0 || length == 7 || length == 16;
            int[] places = {-1, 0, 0, 0, 4, 5, 6, -1, 7, 7, 7, 7, 7, 13, 14, 15, -1, 16, 16, 16, 16};
            Check.due("game() of " + length, x.game() >= 0, whole);
            Check.due("fault(0) of " + length, x.fault(0), whole ? 0 : 1);
            Check.due("fault(1) of " + length, x.fault(1), places[length]);
        }
    }

    private static void promise6() {
        NinepinAlley x = Check.of("pins 3; pins 4; frames 8; frames 7; rolls 1; rolls 3; foul 10; foul 9;"
                + "clean 1 earns 1; clean 2 earns 2; clean 3 earns 3; clean 2 earns 0;"
                + "worth 1 when all; worth 1 when all; joins 0 1; joins 1 0; joins 0 1; joins 8 7;");
        int[] has = {4, 7, 3, 9, 1, 0, 3, 2, 2};
        for (int i = 0; i < has.length; i++) {
            Check.due("has " + i, x.has(i), has[i]);
        }
        Check.due("has(9)", x.has(9), -1);
        Check.due("has(-1)", x.has(-1), -1);
        Check.due("has(min)", x.has(Integer.MIN_VALUE), -1);
    }

    private static void sumsAndTests() {
        worth("down when all", 7, 7);
        worth("1 when down < 3", 3, 0);
        worth("1 when down < 3", 2, 1);
        worth("1 when down > 3", 3, 0);
        worth("1 when down > 3", 4, 1);
        worth("1 when down = 3", 3, 1);
        worth("21 when all", 0, 20);
        worth("0-21 when all", 0, -20);
        worth("1-2-3 when all", 0, -4);
        worth("2+3*4 when all", 0, 14);
        worth("(2+3)*4 when all", 0, 20);
        worth("16/4/2 when all", 0, 2);
        worth("7/2*2 when all", 0, 6);
        worth("(0-7)/2 when all", 0, -4);
        worth("7/(0-2) when all", 0, -4);
        worth("(0-7)/(0-2) when all", 0, 3);
        worth("7/0 when all", 0, 0);
        worth("5+7/(down-down) when all", 3, 5);
        worth("min(3,down) when all", 5, 3);
        worth("max(3,down) when all", 5, 5);
        worth("9999*9999-9999*100-94 when all", 0, 6);
        worth("(0-9999)*9999+9999*100+94 when all", 0, -6);
        worth("9999*9999+9-9999*100-94 when all", 0, 6);
        worth("0-9999*9999-9+9999*100+94 when all", 0, -6);
        worth("9999*9999/9999 - 95 when all", 0, 5);
        worth("1 when not down = 3 and down = 2", 2, 1);
        worth("1 when not [down = 3 and down = 2]", 3, 1);
        worth("1 when down = 1 or down = 2 and down = 3", 1, 1);
        worth("1 when [down = 1 or down = 2] and down = 3", 1, 0);
        worth("1 when not all or all", 1, 1);
        worth("1 when not all", 1, 0);
        worth("1 when not not all", 1, 1);
        worth("1 when not all; worth 2 when all; worth 3 when all", 1, 2);
        worth("mean + games when all", 5, 0);
        NinepinAlley x = Check.of("frames 3; rolls 3; pins 2; worth frame when all;");
        Check.rolls(x, 0, 0, 0, 0, 0, 0, 0, 0, 0);
        for (int f = 0; f < 3; f++) {
            Check.due("worth frame", x.points(f), f + 1);
        }
        x = Check.of("frames 2; rolls 3; pins 2; foul 3; worth used + 5 * fouls when all;");
        Check.rolls(x, 0, -2, 2, -2, -2, -2);
        Check.due("used and fouls", x.points(0), 2 + 3 + 5 - 3);
        Check.due("used and fouls", x.points(1), 3 + 15 - 9);
    }

    public static void main(String[] args) {
        promise1();
        promises2And3();
        promise4();
        promise5();
        bytesBehindTheEnd();
        promise6();
        sumsAndTests();
        Check.end();
    }
}
