import java.nio.charset.StandardCharsets;

/**
 * Help for the tests: answers that are due, texts put on the tape, and the end of a test. The program that ReadmeTest
 * makes has another class loader, and so needs what is public here.
 */
public final class Check {
    private static int calls = 0;
    private static int wrong = 0;
    private static String sentence = "";

    private Check() {
    }

    /** The sentence of the document that the answers looked at from here on are due by. */
    static void promise(int number, String words) {
        sentence = "promise " + number + " (" + words + "): ";
    }

    public static void due(String call, long got, long want) {
        calls++;
        if (got != want) {
            wrong++;
            if (wrong <= 50) {
                System.out.println(sentence + call + " answered " + got + ", due is " + want);
            }
        }
    }

    public static void due(String call, boolean got, boolean want) {
        due(call, got ? 1 : 0, want ? 1 : 0);
    }

    /** Puts bytes on an empty tape. */
    static void tape(NinepinAlley x, byte[] bytes) {
        x.end(0);
        for (int i = 0; i < bytes.length; i += 20) {
            int[] n = new int[5];
            for (int k = 0; k < 20; k++) {
                int b = i + k < bytes.length ? bytes[i + k] & 255 : 32;
                n[k / 4] |= b << (24 - 8 * (k % 4));
            }
            x.feed(n[0], n[1], n[2], n[3], n[4]);
        }
        due("end(" + bytes.length + ")", x.end(bytes.length), true);
    }

    static void tape(NinepinAlley x, int... bytes) {
        byte[] b = new byte[bytes.length];
        for (int i = 0; i < b.length; i++) {
            b[i] = (byte) bytes[i];
        }
        tape(x, b);
    }

    static void tape(NinepinAlley x, String text) {
        tape(x, text.getBytes(StandardCharsets.ISO_8859_1));
    }

    static int game(NinepinAlley x, String text) {
        tape(x, text);
        return x.game();
    }

    /** A new object with a game that has no fault. */
    static NinepinAlley of(String text) {
        NinepinAlley x = new NinepinAlley();
        due("game() of " + text, game(x, text) >= 0, true);
        return x;
    }

    static void rolls(NinepinAlley x, int... rolls) {
        for (int n : rolls) {
            due("roll(" + n + ")", x.roll(n), true);
        }
    }

    static void end() {
        System.out.println(calls + " answers looked at, " + wrong + " wrong");
        if (wrong != 0) {
            System.exit(1);
        }
    }
}
