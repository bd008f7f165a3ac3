/** Promises 12 to 16: seconds that go by, and what is then asked of wards, angels, mishaps and THE BOOK. */
public final class SecondTest {
    private static final Check CHECK = new Check("SecondTest");
    private static final int NONE = AngelTown.NONE;

    public static void main(String[] args) {
        secondsHaveBounds();
        wardsWalk();
        wardsStandStill();
        angelsGoAndWait();
        plansOfNoSteps();
        doingsGuardForAWhile();
        theLatestDoingAverts();
        spoiltDoings();
        mishapsByChance();
        mishapsToOneOrAnybody();
        bookIsFull();
        mishapTellsAll();
        CHECK.finish();
    }

    private static void due(String what, long got, long want) {
        CHECK.due(what, got, want);
    }

    private static void secondsHaveBounds() {
        AngelTown x = new AngelTown();
        due("P12 0", x.seconds(0), NONE);
        due("P12 61", x.seconds(61), NONE);
        due("P12 -1", x.seconds(-1), NONE);
        due("P12 far", x.seconds(Integer.MAX_VALUE), NONE);
        due("P12 nothing is done", x.look(2), 0);
        x.ward(0);
        Check.tell(x, 1, 0, "mishap 1 at 0 from 599 to 599;");
        for (int i = 0; i < 9; i++) {
            due("P12 60", x.seconds(60), 0);
        }
        due("P12 to 599", x.seconds(59), 0);
        due("P12 601 would be", x.seconds(2), NONE);
        due("P12 599 stays", x.look(2), 599);
        due("P12 the last one", x.seconds(1), 1);
        due("P12 600", x.look(2), 600);
        due("P12 no more", x.seconds(1), NONE);
    }

    private static void wardsWalk() {
        AngelTown x = new AngelTown();
        x.town(3, 3);
        x.ward(9);
        x.ward(9);
        Check.tell(x, 0, 0, "north 2;east 2;again 2(south 1;stand 1;)west 9;");
        int[] want = {1, 1, 2, 2, 10, 10, 18, 18, 17, 16, 16, 16, 16, 16, 16, 16, 16, 16};
        for (int i = 0; i < want.length; i++) {
            due("P13 left ahead of " + i, x.of(0, 2), Math.max(0, 17 - i));
            x.seconds(1);
            due("P13 place behind " + i, x.of(0, 0), want[i]);
        }
        due("P13 who has no way stands", x.of(1, 0), 9);
        due("P13 what 3", x.of(0, 3), NONE);
        due("P13 what -1", x.of(0, -1), NONE);
        due("P13 ward 2", x.of(2, 0), NONE);
        due("P13 ward -1", x.of(-1, 0), NONE);
    }

    private static void wardsStandStill() {
        AngelTown x = new AngelTown();
        x.ward(0);
        x.ward(0);
        x.ward(1);
        for (int a = 0; a < 6; a++) {
            x.angel(0, 1);
        }
        x.set(1, 2, 4);
        Check.tell(x, 0, 0, "east 1;");
        Check.tell(x, 2, 0, "glove;cat;glove;");
        x.seconds(1);
        due("P13 still, less the second itself", x.of(0, 1), 3);
        due("P13 he stands", x.of(0, 0), 0);
        due("P13 who is elsewhere does not", x.of(2, 1), 0);
        x.seconds(1);
        due("P13 a cat without a pause", x.of(0, 1), 2);
        x.seconds(1);
        due("P13 four more", x.of(0, 1), 5);
        x.seconds(5);
        due("P13 none left", x.of(0, 1), 0);
        due("P13 yet there", x.of(0, 0), 0);
        due("P13 his way is as long", x.of(0, 2), 1);
        x.seconds(1);
        due("P13 then he goes", x.of(0, 0), 1);
        x.set(1, 2, 9);
        for (int a = 0; a < 6; a++) {
            Check.tell(x, 2, a, "glove;glove;glove;");
        }
        x.seconds(1);
        due("P13 54 less 1", x.of(1, 1), 53);
        x.seconds(1);
        due("P13 99 at most, less 1", x.of(1, 1), 98);
        x.seconds(1);
        due("P13 again", x.of(1, 1), 98);
    }

    private static void angelsGoAndWait() {
        AngelTown x = new AngelTown();
        x.angel(0, 3);
        x.angel(0, 1);
        Check.tell(x, 2, 0, "go 9;wait 2;push;go 8;");
        Check.tell(x, 2, 1, "go 1;wait 1;go 0;");
        // 0 at 0 goes two steps of 3: seconds 0 to 5; waits 6, 7; pushes 8; goes one step 9 to 11
        int[] busy = {5, 4, 3, 2, 1, 0, 1, 0, 0, 2, 1, 0, 0};
        int[] place = {0, 0, 0, 0, 0, 9, 9, 9, 9, 9, 9, 8, 8};
        int[] left = {3, 3, 3, 3, 3, 3, 2, 2, 1, 0, 0, 0, 0};
        int[] done = {0, 0, 0, 0, 0, 0, 0, 0, 1, 1, 1, 1, 1};
        int[] place1 = {1, 1, 0, 0, 0, 0, 0, 0, 0, 0, 0, 0, 0};
        due("P14 ahead", x.at(0, 4), 4);
        for (int i = 0; i < busy.length; i++) {
            x.seconds(1);
            due("P14 busy behind " + i, x.at(0, 2), busy[i]);
            due("P14 place behind " + i, x.at(0, 0), place[i]);
            due("P14 left behind " + i, x.at(0, 4), left[i]);
            due("P14 done behind " + i, x.at(0, 3), done[i]);
            due("P14 the other one behind " + i, x.at(1, 0), place1[i]);
            due("P14 never busy", x.at(1, 2), 0);
        }
        due("P14 what 7", x.at(0, 7), NONE);
        due("P14 what -1", x.at(0, -1), NONE);
        due("P14 angel 2", x.at(2, 0), NONE);
        due("P14 angel -1", x.at(-1, 0), NONE);
        due("P16 second", x.book(0, 0), 8);
        due("P16 place", x.book(0, 3), 9);
    }

    private static void plansOfNoSteps() {
        AngelTown x = new AngelTown();
        x.angel(9, 9);
        Check.tell(x, 2, 0, "go 9;go 9;gust;go 9;");
        x.seconds(1);
        due("P14 a way of no steps takes no time", x.at(0, 3), 1);
        due("P14 one order is left", x.at(0, 4), 1);
        x.seconds(1);
        due("P14 none is left", x.at(0, 4), 0);
        due("P14 not busy", x.at(0, 2), 0);
        Check.tell(x, 2, 0, "go 10;");
        x.seconds(4);
        due("P14 on his way", x.at(0, 2), 5);
        x.set(2, 0, 1);
        x.seconds(4);
        due("P14 another pace does not hasten him", x.at(0, 0), 9);
        x.seconds(1);
        due("P14 there", x.at(0, 0), 10);
    }

    /** A mishap in one second, a push so many seconds ahead of it: what becomes of it. */
    private static int pushedAhead(int guard, int ahead, String unless) {
        AngelTown x = new AngelTown();
        x.set(0, 0, guard);
        x.ward(5);
        x.angel(5, 1);
        Check.tell(x, 1, 0, "mishap 10 at 5 from 12 to 12" + unless + ";");
        Check.tell(x, 2, 0, "wait " + (12 - ahead) + ";push;");
        due("P12 it comes", x.seconds(20), 1);
        return x.mishap(0, 7);
    }

    private static void doingsGuardForAWhile() {
        due("P15 in the same second", pushedAhead(0, 0, ""), 1);
        due("P15 too early", pushedAhead(0, 1, ""), 2);
        due("P15 too late", pushedAhead(9, -1, ""), 2);
        due("P15 just 9 ahead", pushedAhead(9, 9, ""), 1);
        due("P15 10 ahead", pushedAhead(9, 10, ""), 2);
        due("P15 just 3 ahead", pushedAhead(3, 3, " unless push"), 1);
        due("P15 4 ahead", pushedAhead(3, 4, " unless push"), 2);
        due("P15 of another kind", pushedAhead(3, 2, " unless gust"), 2);
    }

    private static void theLatestDoingAverts() {
        AngelTown x = new AngelTown();
        x.ward(0);
        x.angel(0, 1);
        x.angel(0, 1);
        x.angel(1, 1);
        Check.tell(x, 1, 0, "mishap 1 at 0 from 3 to 9 unless gust;mishap 2 at 0 from 3 to 9;mishap 4 at 0 from 3 to 9 unless cat;"
            + "mishap 8 at 0 from 3 to 9;");
        Check.tell(x, 2, 0, "wait 1;gust;gust;push;");
        Check.tell(x, 2, 1, "wait 1;cat;gust;door;");
        Check.tell(x, 2, 2, "wait 1;cat;gust;door;");
        due("P12 all came", x.seconds(4), 4);
        due("P16 lines", x.look(7), 9);
        due("P15 the latest gust", x.mishap(0, 9), 4);
        due("P15 the latest of any kind", x.mishap(1, 9), 7);
        due("P15 the cat there, not the one elsewhere", x.mishap(2, 9), 1);
        due("P16 of the gust", x.book(4, 5), 1);
        due("P16 of the door", x.book(7, 5), 10);
        due("P16 of the cat", x.book(1, 5), 4);
        due("P16 of the cat elsewhere", x.book(2, 5), 0);
        due("P16 of none", x.book(0, 5), 0);
        due("P16 angel", x.book(7, 1), 1);
        due("P16 kind", x.book(7, 2), 3);
        due("P16 second", x.book(7, 0), 3);
        due("P16 worked", x.book(7, 4), 1);
        due("P26 averted", x.look(11), 4);
        due("P26 no harm", x.look(10), 0);
        due("P16 line 9", x.book(9, 0), NONE);
        due("P16 line -1", x.book(-1, 0), NONE);
        due("P16 what 6", x.book(0, 6), NONE);
        due("P16 what -1", x.book(0, -1), NONE);
        Check.tell(x, 1, 0, "mishap 1 at 0 from 3 to 9 unless gust;");
        due("P16 told anew no line has averted one", x.book(4, 5), 0);
        due("P12 but it guards on", x.seconds(1), 1);
        due("P15 averted", x.mishap(0, 7), 1);
    }

    private static void spoiltDoings() {
        AngelTown x = new AngelTown();
        x.ward(0);
        x.angel(0, 1);
        x.set(0, 0, 0);
        x.set(1, 0, 9);
        x.other(0, 1, 2);
        x.other(8, 0, 599);
        Check.tell(x, 2, 0, "push;push;push;push;");
        x.seconds(1);
        due("P16 ahead of the other", x.book(0, 4), 1);
        x.seconds(2);
        due("P16 with the other", x.book(1, 4), 0);
        due("P16 with the other", x.book(2, 4), 0);
        due("P14 done all the same", x.at(0, 3), 3);
        due("P13 nobody is held by it", x.of(0, 1), 6);
        Check.tell(x, 1, 0, "mishap 5 at 0 from 2 to 2;mishap 6 at 0 from 3 to 3;");
        x.seconds(1);
        due("P16 behind the other", x.book(3, 4), 1);
        due("P15 averted", x.mishap(1, 7), 1);
        due("P15 its time was over", x.mishap(0, 7), 0);
        due("P15 it comes no more", x.mishap(0, 8), NONE);
        x = new AngelTown();
        x.angel(9, 1);
        int[] places = {0, 9, 9, 10, 1, 9};
        for (int i = 0; i < 6; i++) {
            x.other(places[i], 2 * i, 2 * i);
        }
        Check.tell(x, 2, 0, "push;".repeat(12));
        x.seconds(12);
        for (int second = 0; second < 12; second++) {
            boolean spoilt = second == 2 || second == 4 || second == 10;
            due("P16 worked in second " + second, x.book(second, 4), spoilt ? 0 : 1);
        }
    }

    private static void mishapsByChance() {
        // from STATE 0 the first draw of 100 is 63
        int[] chances = {63, 64};
        for (int chance : chances) {
            AngelTown x = new AngelTown();
            x.ward(3);
            Check.tell(x, 1, 0, "mishap 50 at 3 from 0 to 9 chance " + chance + ";");
            due("P12 it comes", x.seconds(1), 1);
            due("P15 below the chance or not", x.mishap(0, 7), chance == 64 ? 2 : 3);
            due("P15 when", x.mishap(0, 8), 0);
            due("P26 harm", x.look(10), chance == 64 ? 50 : 0);
            due("P26 drawn", x.look(9), 1013904223);
            due("P12 once alone", x.seconds(5), 0);
        }
        AngelTown x = new AngelTown();
        x.ward(3);
        x.angel(3, 1);
        Check.tell(x, 2, 0, "door;");
        Check.tell(x, 1, 0, "mishap 50 at 3 from 0 to 9 chance 5;");
        x.seconds(1);
        due("P15 averted without a draw", x.mishap(0, 7), 1);
        due("P26 nothing was drawn", x.look(9), 0);
    }

    private static void mishapsToOneOrAnybody() {
        AngelTown x = new AngelTown();
        x.ward(0);
        x.ward(2);
        Check.tell(x, 0, 0, "east 2;");
        Check.tell(x, 1, 0, "mishap 1 at 2 from 0 to 5 ward 0;mishap 2 at 2 from 0 to 5 ward 1;mishap 3 at 2 from 1 to 5;"
            + "mishap 4 at 0 from 0 to 5;mishap 5 at 1 from 1 to 5;mishap 6 at 1 from 0 to 0;");
        due("P12 second 0", x.seconds(1), 2);
        due("P15 ward 1 is there", x.mishap(1, 7), 2);
        due("P15 behind his step", x.mishap(5, 7), 2);
        due("P12 second 1", x.seconds(1), 2);
        due("P15 ward 0 is there", x.mishap(0, 8), 1);
        due("P15 anybody", x.mishap(2, 8), 1);
        due("P15 nobody is there any more", x.mishap(3, 7), 0);
        due("P15 nobody was there then", x.mishap(4, 7), 0);
        due("P26 harm", x.look(10), 12);
    }

    private static void bookIsFull() {
        AngelTown x = new AngelTown();
        x.ward(0);
        x.set(0, 0, 0);
        x.set(1, 0, 1);
        for (int a = 0; a < 6; a++) {
            x.angel(0, 1);
            Check.tell(x, 2, a, "push;".repeat(20));
        }
        Check.tell(x, 1, 0, "mishap 9 at 0 from 16 to 16;mishap 5 at 0 from 17 to 17;");
        due("P17 the book will be full", x.planned(0), 500);
        due("P17 one is averted", x.planned(1), 1);
        x.seconds(16);
        due("P16 96 lines", x.look(7), 96);
        x.seconds(1);
        due("P16 100 lines", x.look(7), 100);
        due("P15 averted by the last", x.mishap(0, 9), 99);
        due("P16 its angel", x.book(99, 1), 3);
        int still = x.of(0, 1);
        x.seconds(1);
        due("P16 no more lines", x.look(7), 100);
        due("P16 none such", x.book(100, 0), NONE);
        due("P15 what is not in it guards nothing", x.mishap(1, 7), 2);
        due("P14 done", x.at(5, 3), 18);
        due("P13 it holds all the same", x.of(0, 1), Math.min(99, still + 6) - 1);
    }

    private static void mishapTellsAll() {
        AngelTown x = new AngelTown();
        x.town(3, 4);
        x.ward(1);
        x.ward(2);
        x.angel(0, 2);
        x.angel(18, 1);
        Check.tell(x, 1, 0, "mishap 42 at 2 from 1 to 8 ward 1 unless glove chance 7;mishap 3 at 25 from 0 to 599;mishap 8 at 1 from 0 to 3;");
        int[][] want = {{42, 2, 1, 8, 1, 2, 7, 0, 1, NONE, 0}, {3, 25, 0, 599, NONE, NONE, 100, 0, NONE, NONE, 0},
            {8, 1, 0, 3, NONE, NONE, 100, 0, 0, NONE, 0}};
        for (int i = 0; i < 3; i++) {
            for (int what = 0; what < 11; what++) {
                due("P15 of " + i + " what " + what, x.mishap(i, what), want[i][what]);
            }
        }
        due("P15 what 11", x.mishap(0, 11), NONE - 1);
        due("P15 what -1", x.mishap(0, -1), NONE - 1);
        due("P15 mishap 3", x.mishap(3, 0), NONE - 1);
        due("P15 mishap -1", x.mishap(-1, 0), NONE - 1);
        Check.tell(x, 1, 0, "mishap 42 at 2 from 4 to 8;");
        // angel 0 is two steps of 2 away, angel 1 two steps of 1
        due("P15 who could", x.mishap(0, 10), 3);
        x.seconds(1);
        due("P15 who could yet", x.mishap(0, 10), 2);
        x.seconds(2);
        due("P15 nobody could", x.mishap(0, 10), 0);
        due("P15 when it comes", x.mishap(0, 8), 4);
        x.seconds(2);
        due("P15 over", x.mishap(0, 7), 2);
        due("P15 when it came", x.mishap(0, 8), 4);
    }
}
