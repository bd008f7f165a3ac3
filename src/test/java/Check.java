/** Counts the answers that are not as due; shared by the tests of the project. */
final class Check {
    private final String name;
    private int asked;
    private int wrong;

    Check(String name) {
        this.name = name;
    }

    void due(String what, long got, long want) {
        asked++;
        if (got != want) {
            wrong++;
            System.out.println(name + ": " + what + " answered " + got + ", due is " + want);
        }
    }

    void due(String what, boolean got, boolean want) {
        due(what, got ? 1L : 0L, want ? 1L : 0L);
    }

    void finish() {
        System.out.println(name + ": " + asked + " answers, " + wrong + " wrong");
        if (wrong != 0 || asked == 0) {
            System.exit(1);
        }
    }

    /** A town of four by three with two wards and one angel, for texts. */
    static AngelTown small() {
        AngelTown x = new AngelTown();
        x.town(4, 3);
        x.ward(0);
        x.ward(8);
        x.angel(0, 1);
        return x;
    }

    /** A text of ward 0 or angel 0 of the small town without a fault. */
    void good(int k, String text, int want) {
        told(k, text, want, 0, AngelTown.NONE);
    }

    void bad(int k, String text, int fault, int place) {
        told(k, text, AngelTown.NONE, fault, place);
    }

    private void told(int k, String text, int want, int fault, int place) {
        AngelTown x = small();
        due("P10 " + text, tell(x, k, 0, text), want);
        due("P11 of " + text, x.fault(0), fault);
        due("P11 place of " + text, x.fault(1), place);
        due("P11 what 2", x.fault(2), AngelTown.NONE);
        due("P11 what -1", x.fault(-1), AngelTown.NONE);
        due("P10 the tape is empty behind " + text, x.end(1), false);
    }

    /** Feeds a text to the tape and tells it: what text() answers. */
    static int tell(AngelTown x, int k, int who, String text) {
        feed(x, text);
        return x.text(k, who);
    }

    /** Puts a text behind the tape, which must be empty. */
    static void feed(AngelTown x, String text) {
        int[] five = new int[5];
        for (int i = 0; i < text.length(); i += 20) {
            for (int j = 0; j < 5; j++) {
                five[j] = 0;
                for (int b = 0; b < 4; b++) {
                    int p = i + 4 * j + b;
                    five[j] = five[j] << 8 | (p < text.length() ? text.charAt(p) & 255 : ' ');
                }
            }
            x.feed(five[0], five[1], five[2], five[3], five[4]);
        }
        x.end(text.length());
    }
}
