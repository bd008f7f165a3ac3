/** Promises 24 and 25: seconds undone, and THE IMAGE. */
public final class BackTest {
    private static final Check CHECK = new Check("BackTest");
    private static final int NONE = AngelTown.NONE;

    public static void main(String[] args) {
        sixAreKept();
        allGoesBack();
        whatForgets();
        theLawStays();
        imageHoldsAll();
        imageMoreThanOnce();
        CHECK.finish();
    }

    private static void due(String what, long got, long want) {
        CHECK.due(what, got, want);
    }

    private static void due(String what, boolean got, boolean want) {
        CHECK.due(what, got, want);
    }

    private static void sixAreKept() {
        AngelTown x = new AngelTown();
        due("P24 nothing", x.undo(), false);
        x.seconds(4);
        due("P24 four", x.look(12), 4);
        x.seconds(5);
        due("P24 six at most", x.look(12), 6);
        for (int i = 8; i >= 5; i--) {
            due("P24 back", x.undo(), true);
            due("P24 second", x.look(2), i);
        }
        x.seconds(3);
        due("P24 two and three", x.look(12), 5);
        for (int i = 7; i >= 3; i--) {
            due("P24 back", x.undo(), true);
            due("P24 second", x.look(2), i);
        }
        due("P24 no more", x.undo(), false);
        due("P24 second 3", x.look(2), 3);
        due("P24 none", x.look(12), 0);
    }

    private static int[] all(AngelTown x) {
        int[] out = new int[400];
        int n = 0;
        for (int what = 0; what < 14; what++) {
            out[n++] = what == 12 ? 0 : x.look(what);
        }
        for (int w = 0; w < 3; w++) {
            for (int what = 0; what < 3; what++) {
                out[n++] = x.of(w, what);
            }
        }
        for (int a = 0; a < 2; a++) {
            for (int what = 0; what < 7; what++) {
                out[n++] = x.at(a, what);
            }
        }
        for (int i = 0; i < 4; i++) {
            for (int what = 0; what < 11; what++) {
                out[n++] = x.mishap(i, what);
            }
        }
        for (int i = 0; i < 12; i++) {
            for (int what = 0; what < 6; what++) {
                out[n++] = x.book(i, what);
            }
        }
        for (int what = 0; what < 2; what++) {
            out[n++] = x.planned(what);
            out[n++] = x.least(what);
            out[n++] = x.fewest(what);
            out[n++] = x.near(0, 1, what);
            out[n++] = (int) x.lot(7, what);
        }
        out[n++] = x.least(10);
        out[n++] = x.least(11);
        out[n++] = x.hopeless();
        out[n++] = x.shows();
        for (int k = 20; k < 25; k++) {
            out[n++] = x.look(k);
        }
        return out;
    }

    private static void same(String what, int[] got, int[] want) {
        for (int i = 0; i < want.length; i++) {
            due(what + " [" + i + "]", got[i], want[i]);
        }
    }

    private static AngelTown busy() {
        AngelTown x = new AngelTown();
        x.town(5, 5);
        x.ward(0);
        x.ward(4);
        x.ward(12);
        x.angel(0, 1);
        x.angel(36, 2);
        x.other(1, 2, 3);
        x.set(1, 0, 2);
        x.set(1, 3, 4);
        x.state(31337);
        Check.tell(x, 0, 0, "again 3(east 1;stand 1;)south 3;");
        Check.tell(x, 0, 1, "west 4;south 4;");
        Check.tell(x, 2, 0, "push;go 1;door;cat;go 8;gust;");
        Check.tell(x, 2, 1, "go 28;glove;wait 2;go 12;push;push;");
        Check.tell(x, 1, 0, "mishap 30 at 1 from 0 to 9 chance 40;mishap 20 at 12 from 5 to 20 unless push chance 80;"
            + "mishap 9 at 2 from 1 to 30 ward 1;mishap 70 at 8 from 0 to 40 chance 10;");
        Check.tell(x, 3, 0, "fails when second>6 and kind=4;works when spoilt=0 or done>1;");
        return x;
    }

    private static void allGoesBack() {
        AngelTown x = busy();
        int[][] seen = new int[25][];
        for (int i = 0; i < 25; i++) {
            seen[i] = all(x);
            x.seconds(1);
        }
        for (int i = 24; i >= 19; i--) {
            x.undo();
            same("P24 as it was in second " + i, all(x), seen[i]);
        }
        x = busy();
        x.set(1, 3, 9);
        Check.tell(x, 1, 0, "mishap 30 at 1 from 0 to 9 chance 40;mishap 20 at 12 from 5 to 20 unless push chance 80;"
            + "mishap 9 at 2 from 1 to 30 ward 1;mishap 70 at 8 from 0 to 40 chance 10;");
        for (int i = 0; i < 6; i++) {
            seen[i] = all(x);
            x.seconds(1);
        }
        for (int i = 5; i >= 0; i--) {
            x.undo();
            same("P24 as it was in second " + i + " with doors", all(x), seen[i]);
        }
        seen[0] = all(busy());
        AngelTown y = busy();
        y.seconds(4);
        for (int i = 0; i < 4; i++) {
            y.undo();
        }
        same("P24 as it was at first", all(y), seen[0]);
        y.seconds(12);
        same("P24 and goes on likewise", all(y), seen[12]);
    }

    private static AngelTown ahead() {
        AngelTown x = new AngelTown();
        x.ward(0);
        x.angel(0, 1);
        x.image(true);
        x.seconds(3);
        due("P24 three", x.look(12), 3);
        return x;
    }

    private static void forgets(String what, AngelTown x) {
        due("P24 forgotten by " + what, x.look(12), 0);
        due("P24 nothing by " + what, x.undo(), false);
    }

    private static void keeps(String what, AngelTown x) {
        due("P24 kept by " + what, x.look(12), 3);
        due("P24 back behind " + what, x.undo(), true);
        due("P24 second behind " + what, x.look(2), 2);
    }

    private static void whatForgets() {
        AngelTown x = ahead();
        x.state(0);
        forgets("state", x);
        x = ahead();
        x.town(8, 8);
        forgets("town", x);
        x = ahead();
        x.set(0, 0, 3);
        forgets("set", x);
        x = ahead();
        x.ward(1);
        forgets("ward", x);
        x = ahead();
        x.angel(1, 1);
        forgets("angel", x);
        x = ahead();
        x.other(1, 1, 1);
        forgets("other", x);
        for (int k = 0; k < 3; k++) {
            x = ahead();
            x.text(k, 0);
            forgets("text " + k, x);
        }
        x = ahead();
        x.image(false);
        forgets("going back to the image", x);
        x = ahead();
        x.image(true);
        keeps("the taking of the image", x);
        x = ahead();
        Check.tell(x, 3, 0, "works;");
        keeps("the law", x);
        x = ahead();
        x.town(1, 1);
        x.set(9, 9, 9);
        x.ward(99);
        x.angel(0, 0);
        x.other(0, 2, 1);
        x.seconds(0);
        x.text(0, 5);
        Check.tell(x, 0, 0, "east");
        Check.tell(x, 1, 0, "east");
        Check.tell(x, 2, 0, "east");
        keeps("what can't be", x);
        x = new AngelTown();
        x.seconds(3);
        due("P25 no image", x.image(false), false);
        keeps("no image", x);
    }

    private static void theLawStays() {
        AngelTown x = new AngelTown();
        x.ward(0);
        x.angel(0, 1);
        Check.tell(x, 2, 0, "push;");
        x.seconds(1);
        due("P16 it works", x.book(0, 4), 1);
        Check.tell(x, 3, 0, "fails;");
        due("P16 what was is not altered", x.book(0, 4), 1);
        x.undo();
        due("P24 the book", x.look(7), 0);
        due("P24 the law stays", x.look(8), 1);
        x.seconds(1);
        due("P24 and is asked", x.book(0, 4), 0);
    }

    private static void imageHoldsAll() {
        AngelTown x = busy();
        x.seconds(7);
        int[] then = all(x);
        due("P25 taken", x.image(true), true);
        int[] later = null;
        for (int round = 0; round < 3; round++) {
            x.seconds(20);
            if (round == 0) {
                later = all(x);
            }
            same("P25 all goes on from it alike", all(x), later);
            Check.feed(x, "west 3;");
            if (round == 1) {
                Check.tell(x, 3, 0, "");
                x.town(2, 2);
                x.ward(9);
                x.angel(9, 9);
                x.other(9, 5, 6);
                x.state(1);
                x.set(0, 0, 9);
                Check.tell(x, 0, 0, "again 9(east 60;)");
                Check.tell(x, 2, 0, "cat;".repeat(40));
                Check.tell(x, 1, 0, "mishap 1 at 9 from 0 to 99;");
                x.seconds(50);
                Check.feed(x, "west 3;");
            }
            due("P25 gone back", x.image(false), true);
            same("P25 as it was", all(x), then);
            due("P25 nothing can be undone", x.look(12), 0);
            due("P25 the tape stays", x.end(7), true);
            due("P25 seven bytes", x.end(8), false);
            x.end(0);
        }
    }

    private static void imageMoreThanOnce() {
        AngelTown x = new AngelTown();
        x.ward(0);
        x.image(true);
        x.ward(1);
        Check.tell(x, 0, 0, "east");
        x.image(true);
        x.ward(2);
        due("P25 back", x.image(false), true);
        due("P25 the latest one", x.look(3), 2);
        due("P25 fault stays", x.fault(0), 1);
        due("P25 its place", x.fault(1), 4);
        due("P25 again", x.image(false), true);
        due("P25 two", x.look(3), 2);
        due("P25 none such", x.of(2, 0), NONE);
        x = new AngelTown();
        x.angel(0, 1);
        Check.tell(x, 2, 0, "push;push;push;");
        x.other(63, 0, 0);
        x.other(0, 1, 1);
        x.image(true);
        x.town(8, 8);
        x.other(0, 0, 0);
        x.other(0, 2, 2);
        x.image(false);
        x.seconds(3);
        for (int line = 0; line < 3; line++) {
            due("P25 the others are those of the image", x.book(line, 4), line == 1 ? 0 : 1);
        }
    }
}
