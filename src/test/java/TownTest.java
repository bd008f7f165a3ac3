/** Promises 1 to 9 and 26: a new object, what is told by numbers, the tape, and look(). */
public final class TownTest {
    private static final Check CHECK = new Check("TownTest");
    private static final int NONE = AngelTown.NONE;

    public static void main(String[] args) {
        aNewObject();
        stateIsToldAndDrawn();
        townIsToldAnew();
        setHasBounds();
        wardsComeUpToEight();
        angelsComeUpToSix();
        othersComeUpToSix();
        tapeIsFedAndCut();
        lookTellsAll();
        CHECK.finish();
    }

    private static void due(String what, long got, long want) {
        CHECK.due(what, got, want);
    }

    private static void due(String what, boolean got, boolean want) {
        CHECK.due(what, got, want);
    }

    private static void aNewObject() {
        AngelTown x = new AngelTown();
        int[] want = {8, 8, 0, 0, 0, 0, 0, 0, 0, 0, 0, 0, 0, 3, NONE, NONE, NONE, NONE, NONE, NONE, 0, 0, 0, 0, 0, NONE};
        for (int what = 0; what < want.length; what++) {
            due("P1 look " + what, x.look(what), want[what]);
        }
        due("P1 look -1", x.look(-1), NONE);
        due("P1 no ward", x.of(0, 0), NONE);
        due("P1 no angel", x.at(0, 0), NONE);
        due("P1 no mishap", x.mishap(0, 0), NONE - 1);
        due("P1 no line", x.book(0, 0), NONE);
        due("P1 no fault", x.fault(0), 0);
        due("P1 no place", x.fault(1), NONE);
        due("P1 nothing to undo", x.undo(), false);
        due("P1 no image", x.image(false), false);
        due("P1 empty tape", x.end(1), false);
        due("P1 the last place", x.ward(63), 0);
    }

    private static void stateIsToldAndDrawn() {
        AngelTown x = new AngelTown();
        due("P2 at first", x.state(-7), 0);
        due("P2 then", x.state(5), -7);
        due("P2 look", x.look(9), 5);
        x.ward(0);
        Check.tell(x, 1, 0, "mishap 9 at 0 from 0 to 9 chance 99;mishap 9 at 0 from 0 to 9;mishap 9 at 0 from 0 to 9 chance 1;");
        x.seconds(1);
        int once = 1664525 * 5 + 1013904223;
        int twice = 1664525 * once + 1013904223;
        due("P2 two draws, as a sure one draws nothing", x.look(9), twice);
        due("P2 first draw", x.mishap(0, 7), (once >>> 8) % 100 < 99 ? 2 : 3);
        due("P2 second draw", x.mishap(2, 7), (twice >>> 8) % 100 < 1 ? 2 : 3);
        x.state(Integer.MIN_VALUE);
        due("P2 least int", x.look(9), Integer.MIN_VALUE);
        due("P2 telling it forgets the seconds", x.look(12), 0);
    }

    private static void townIsToldAnew() {
        AngelTown x = new AngelTown();
        int[][] no = {{1, 8}, {8, 1}, {9, 8}, {8, 9}, {0, 0}, {-1, 4}, {Integer.MAX_VALUE, 2}, {2, Integer.MIN_VALUE}};
        x.ward(5);
        x.seconds(2);
        for (int[] wh : no) {
            due("P3 no such town", x.town(wh[0], wh[1]), false);
        }
        due("P3 nothing is done", x.look(3), 1);
        due("P3 nothing is forgotten", x.look(12), 2);
        x.state(77);
        x.set(0, 0, 9);
        x.set(1, 2, 4);
        x.angel(0, 3);
        x.other(1, 2, 3);
        Check.tell(x, 0, 0, "east 4;");
        Check.tell(x, 2, 0, "push;cat;");
        Check.tell(x, 3, 0, "fails;");
        Check.tell(x, 1, 0, "mishap 3 at 0 from 0 to 5;");
        x.image(true);
        x.seconds(3);
        Check.tell(x, 1, 0, "mishap 0");
        Check.feed(x, "west 2;");
        due("P3 a town", x.town(3, 2), true);
        int[] want = {3, 2, 0, 0, 0, 0, 0, 0, 0, 77, 0, 0, 0, 3};
        for (int what = 0; what < want.length; what++) {
            due("P3 look " + what, x.look(what), want[what]);
        }
        due("P3 pause", x.look(22), 0);
        due("P3 fault stays", x.fault(0), 2);
        due("P3 its place stays", x.fault(1), 7);
        due("P3 a new ward is as at first", x.ward(10), 0);
        due("P3 his way is empty", x.of(0, 2), 0);
        due("P3 a new angel", x.angel(2, 1), 0);
        due("P3 no plan", x.at(0, 4), 0);
        due("P3 nothing done", x.at(0, 3), 0);
        due("P3 the tape stays", x.text(0, 0), 2);
        due("P3 beyond its width", x.ward(3), NONE);
        due("P3 beyond its height", x.ward(16), NONE);
        due("P3 the image stays", x.image(false), true);
        due("P3 back in the old town", x.look(0), 8);
        due("P3 old law", x.look(8), 1);
    }

    private static void setHasBounds() {
        AngelTown x = new AngelTown();
        due("P4 guard 9", x.set(0, -5, 9), true);
        due("P4 guard is 9", x.look(13), 9);
        due("P4 guard 0", x.set(0, 0, 0), true);
        due("P4 guard 10", x.set(0, 0, 10), false);
        due("P4 guard -1", x.set(0, 0, -1), false);
        due("P4 guard stays", x.look(13), 0);
        for (int k = 0; k < 5; k++) {
            due("P4 pause", x.set(1, k, 9 - k), true);
            due("P4 pause is so", x.look(20 + k), 9 - k);
        }
        due("P4 kind 5", x.set(1, 5, 1), false);
        due("P4 kind -1", x.set(1, -1, 1), false);
        due("P4 pause 10", x.set(1, 0, 10), false);
        due("P4 pause -1", x.set(1, 0, -1), false);
        due("P4 nobody's pace", x.set(2, 0, 1), false);
        x.angel(0, 1);
        due("P4 pace 9", x.set(2, 0, 9), true);
        due("P4 pace is 9", x.at(0, 1), 9);
        due("P4 pace 0", x.set(2, 0, 0), false);
        due("P4 pace 10", x.set(2, 0, 10), false);
        due("P4 angel -1", x.set(2, -1, 3), false);
        due("P4 angel 1", x.set(2, 1, 3), false);
        due("P4 pace stays", x.at(0, 1), 9);
        due("P4 what 3", x.set(3, 0, 1), false);
        due("P4 what -1", x.set(-1, 0, 1), false);
        x.seconds(2);
        x.set(0, 0, 10);
        due("P4 what can't be forgets nothing", x.look(12), 2);
        x.set(1, 0, 3);
        due("P4 what is told forgets", x.look(12), 0);
    }

    private static void wardsComeUpToEight() {
        AngelTown x = new AngelTown();
        x.town(3, 5);
        int[] no = {-1, 3, 7, 40, 64, 35, Integer.MAX_VALUE, Integer.MIN_VALUE};
        for (int p : no) {
            due("P5 no place " + p, x.ward(p), NONE);
        }
        for (int i = 0; i < 8; i++) {
            due("P5 ward", x.ward(34), i);
            due("P5 is there", x.of(i, 0), 34);
        }
        due("P5 the ninth", x.ward(0), NONE);
        due("P5 eight", x.look(3), 8);
    }

    private static void angelsComeUpToSix() {
        AngelTown x = new AngelTown();
        x.town(3, 5);
        due("P6 no place", x.angel(3, 1), NONE);
        due("P6 no place", x.angel(-1, 1), NONE);
        due("P6 no place", x.angel(40, 1), NONE);
        due("P6 pace 0", x.angel(0, 0), NONE);
        due("P6 pace 10", x.angel(0, 10), NONE);
        due("P6 pace -1", x.angel(0, -1), NONE);
        due("P6 none came", x.look(4), 0);
        for (int i = 0; i < 6; i++) {
            due("P6 angel", x.angel(8 + i % 3, 9 - i), i);
            due("P6 is there", x.at(i, 0), 8 + i % 3);
            due("P6 his pace", x.at(i, 1), 9 - i);
        }
        due("P6 the seventh", x.angel(0, 1), NONE);
    }

    private static void othersComeUpToSix() {
        AngelTown x = new AngelTown();
        x.town(3, 5);
        due("P7 no place", x.other(3, 0, 1), NONE);
        due("P7 no place", x.other(-8, 0, 1), NONE);
        due("P7 from -1", x.other(0, -1, 1), NONE);
        due("P7 to 600", x.other(0, 0, 600), NONE);
        due("P7 from 600", x.other(0, 600, 600), NONE);
        due("P7 below", x.other(0, 7, 6), NONE);
        due("P7 none came", x.look(5), 0);
        for (int i = 0; i < 6; i++) {
            due("P7 other", x.other(i % 3, 0, i == 0 ? 599 : 0), i);
        }
        due("P7 the seventh", x.other(0, 0, 0), NONE);
        due("P7 six", x.look(5), 6);
    }

    private static void tapeIsFedAndCut() {
        AngelTown x = new AngelTown();
        x.ward(0);
        for (int i = 1; i <= 20; i++) {
            due("P8 how many", x.feed(538976288, 538976288, 538976288, 538976288, 538976288), 20 * i);
        }
        due("P8 more than 400", x.feed(0, 0, 0, 0, 0), NONE);
        due("P9 400", x.end(400), true);
        due("P9 401", x.end(401), false);
        due("P9 -1", x.end(-1), false);
        due("P9 381", x.end(381), true);
        due("P8 401 would be", x.feed(0, 0, 0, 0, 0), NONE);
        due("P9 nothing came", x.end(382), false);
        due("P9 380", x.end(380), true);
        due("P8 400", x.feed(538976288, 538976288, 538976288, 538976288, 538976288), 400);
        due("P8 all blanks", x.text(0, 0), 0);
        due("P9 it is empty", x.end(1), false);
        due("P9 0 of 0", x.end(0), true);
        // "east" 1702064052, " 12;" 540095035
        x.feed(1700885364, 540095035, 0x77657374, 0x20333b20, 0x20202020);
        due("P9 16", x.end(16), true);
        due("P8 the highest byte first", x.text(0, 0), 15);
        x.seconds(2);
        x.feed(1700885364, 540095035, 0, 0, 0);
        x.end(3);
        due("P8 the tape forgets nothing", x.look(12), 2);
    }

    private static void lookTellsAll() {
        AngelTown x = new AngelTown();
        x.town(5, 4);
        x.ward(0);
        x.ward(1);
        x.angel(0, 1);
        x.other(4, 0, 0);
        x.set(0, 0, 1);
        x.set(1, 4, 2);
        Check.tell(x, 1, 0, "mishap 10 at 0 from 0 to 0;mishap 20 at 1 from 0 to 1;mishap 40 at 1 from 1 to 1;");
        Check.tell(x, 2, 0, "push;push;");
        Check.tell(x, 3, 0, "works;fails;works;");
        x.state(1);
        x.seconds(2);
        int[] want = {5, 4, 2, 2, 1, 1, 3, 2, 3, 1, 60, 1, 2, 1};
        for (int what = 0; what < want.length; what++) {
            due("P26 look " + what, x.look(what), want[what]);
        }
        for (int what = 14; what < 20; what++) {
            due("P26 none " + what, x.look(what), NONE);
        }
        due("P26 pause 4", x.look(24), 2);
        due("P26 25", x.look(25), NONE);
        due("P26 far", x.look(Integer.MAX_VALUE), NONE);
        due("P26 far", x.look(Integer.MIN_VALUE), NONE);
    }
}
