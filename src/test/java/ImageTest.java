/** Promises 29 to 31: images. */
public final class ImageTest {
    private static int[] withCheck(int... bytes) {
        int[] all = new int[bytes.length + 1];
        int check = 11;
        for (int i = 0; i < bytes.length; i++) {
            all[i] = bytes[i];
            check = (7 * check + bytes[i]) % 239;
        }
        all[bytes.length] = check;
        return all;
    }

    private static void on(NinepinAlley x, boolean want, int... bytes) {
        Check.tape(x, bytes);
        Check.due("on()", x.on(), want);
        Check.due("the tape went", x.end(1), false);
    }

    private static void images() {
        NinepinAlley x = Check.of("pins 3; frames 2; rolls 2; clean 1 earns 1;");
        Check.due("octet ahead of any", x.octet(0), -1);
        Check.rolls(x, -2, 2, 3, 1);
        Check.due("image()", x.image(), 6);
        int[] due = withCheck(4, 200, 2, 3, 1);
        for (int k = 0; k < due.length; k++) {
            Check.due("octet(" + k + ")", x.octet(k), due[k]);
        }
        Check.due("octet(6)", x.octet(6), -1);
        Check.due("octet(-1)", x.octet(-1), -1);
        Check.due("octet(max)", x.octet(Integer.MAX_VALUE), -1);
        x.clear();
        Check.due("the latest image stays", x.octet(1), 200);
        Check.game(x, "pins 9;");
        Check.due("the latest image stays", x.octet(1), 200);
        Check.due("image()", x.image(), 2);
        Check.due("octet(1)", x.octet(1), 77);
        Check.due("octet(2)", x.octet(2), -1);
        x = Check.of("pins 1; frames 8; rolls 3; clean 3 earns 3;");
        for (int f = 0; f < 8; f++) {
            Check.rolls(x, 0, -2, 1);
        }
        Check.rolls(x, 1, 1, 1);
        Check.due("the longest image", x.image(), 29);
        Check.due("its first byte", x.octet(0), 27);
        Check.due("total", x.total(), 8 + 7 + 3);
    }

    private static void taken() {
        NinepinAlley x = Check.of("pins 3; frames 2; rolls 2; clean 1 earns 1;");
        on(x, true, withCheck(4, 200, 2, 3, 1));
        Check.due("total", x.total(), 6);
        Check.due("rolled(0)", x.rolled(0), -2);
        x.tear(0, true);
        Check.due("fits", x.fits(0, true), 10);
        on(x, false, 1);
        on(x, false);
        on(x, false, 0);
        on(x, false, withCheck(3, 200, 2, 3, 1));
        on(x, false, withCheck(5, 200, 2, 3, 1));
        on(x, false, withCheck(5, 200, 2, 3, 1, 0));
        on(x, false, withCheck(2, 2, 2));
        on(x, false, withCheck(1, 4));
        on(x, false, withCheck(1, 254));
        on(x, false, withCheck(1, 255));
        on(x, false, withCheck(1, 199));
        int[] wrong = withCheck(1, 2);
        wrong[2]++;
        on(x, false, wrong);
        on(x, false, 1, 2, wrong[2] - 1, 32);
        Check.due("all stays", x.sheet(0), 4);
        Check.due("all stays", x.fits(0, true), 10);
        on(x, true, withCheck(4, 0, 0, 3, 200));
        Check.due("nothing is torn", x.fits(0, true), 1);
        Check.due("total", x.total(), 3);
        on(x, true, withCheck(1, 2));
        Check.due("sheet(3)", x.sheet(3), 1);
        Check.due("come", x.come(true), 9);
        on(x, true, 0, 77);
        Check.due("an empty sheet", x.sheet(0), 0);
        Check.due("come", x.come(true), 12);
        on(x, true, withCheck(3, 3, 3, 3));
        Check.due("total", x.total(), 12);
        on(x, false, withCheck(4, 3, 3, 3, 0));
    }

    public static void main(String[] args) {
        images();
        taken();
        Check.end();
    }
}
