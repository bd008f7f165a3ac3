/** The edges of '3. A SECOND' and of promises 12 to 16, sentence by sentence. */
public final class EdgeSecondTest {
    private static final Check CHECK = new Check("EdgeSecondTest");
    private static final int NONE = AngelTown.NONE;
    private static final int[] FAR = {Integer.MIN_VALUE, Integer.MIN_VALUE + 1, -600, -64, -3, -2, -1, 64, 600, 1 << 16, Integer.MAX_VALUE - 1,
        Integer.MAX_VALUE};

    public static void main(String[] args) {
        oneToSixtyGoBy();
        notAboveSixHundred();
        manyAreAsOneByOne();
        busyIsOneLess();
        goingTakesStepsTimesPace();
        noStepsTakeNoTime();
        onlyOneSecond();
        waitingTakesSoLong();
        withoutAnOrder();
        aDoingTakesItsSecond();
        doneAheadOfIt();
        whoIsThereStandsStill();
        stillIsNinetyNineAtMost();
        aDoingThatFailsHoldsNobody();
        angelsAheadOfWards();
        angelByAngel();
        outOfTheTownHeStays();
        behindTheLastStepHeStands();
        fromTheFirstToTheLastSecond();
        itsWardOrAnybody();
        overComesNoMore();
        guardAheadOfThisOne();
        guardFromTheFirstSecond();
        itsKindOrAny();
        doingsElsewhereGuardNothing();
        theLatestSuchDoing();
        chanceBelowAHundred();
        drawsMishapByMishap();
        worksByTheFirstLine();
        withoutALineUnlessSpoilt();
        whatTheLawAsks();
        hundredLines();
        tenMishapsAtOnce();
        ofHasNoOther();
        atHasNoOther();
        mishapHasNoOther();
        bookHasNoOther();
        CHECK.finish();
    }

    private static void due(String what, long got, long want) {
        CHECK.due(what, got, want);
    }

    private static void due(String what, boolean got, boolean want) {
        CHECK.due(what, got, want);
    }

    /** "SECONDS go by (1 .. 60) .. NONE, and nothing is done, if one can't be" */
    private static void oneToSixtyGoBy() {
        for (int n = -2; n <= 63; n++) {
            AngelTown x = new AngelTown();
            boolean can = n >= 1 && n <= 60;
            due("P12 seconds " + n, x.seconds(n), can ? 0 : NONE);
            due("P12 SECOND", x.look(2), can ? n : 0);
        }
        for (int n : FAR) {
            due("P12 seconds " + n, new AngelTown().seconds(n), NONE);
        }
        Whole.refused(CHECK, "P12 seconds that can't be", x -> {
            x.seconds(0);
            x.seconds(-1);
            x.seconds(61);
            x.seconds(Integer.MIN_VALUE);
            x.seconds(Integer.MAX_VALUE);
        });
    }

    private static AngelTown inSecond(int second) {
        AngelTown x = new AngelTown();
        goTo(x, second);
        return x;
    }

    private static void goTo(AngelTown x, int second) {
        for (int i = 0; i < 600 && x.look(2) < second; i++) {
            x.seconds(Math.min(60, second - x.look(2)));
        }
    }

    /** "or SECOND would be above 600", "(600: nothing goes by)" */
    private static void notAboveSixHundred() {
        for (int second = 538; second <= 600; second++) {
            for (int n = 1; n <= 60; n += second + n == 599 || second + n == 600 ? 1 : n < 3 ? 1 : 7) {
                AngelTown x = inSecond(second);
                boolean can = second + n <= 600;
                due("P12 " + n + " behind " + second, x.seconds(n), can ? 0 : NONE);
                due("P12 SECOND", x.look(2), can ? second + n : second);
            }
        }
        int[][] edges = {{540, 60}, {541, 59}, {541, 60}, {599, 1}, {599, 2}, {600, 1}, {590, 10}, {590, 11}};
        for (int[] e : edges) {
            AngelTown x = inSecond(e[0]);
            boolean can = e[0] + e[1] <= 600;
            due("P12 " + e[1] + " behind " + e[0], x.seconds(e[1]), can ? 0 : NONE);
            due("P24 what can be undone", x.look(12), 6);
            due("P12 SECOND", x.look(2), can ? 600 : e[0]);
        }
    }

    /** Seconds that go by together are as those that go by one by one. */
    private static void manyAreAsOneByOne() {
        AngelTown x = Whole.lively();
        AngelTown y = Whole.lively();
        String three = "mishap 30 at 18 from 6 to 9 chance 40;mishap 20 at 18 from 8 to 20 chance 80;mishap 9 at 18 from 12 to 30;";
        x.end(0);
        y.end(0);
        Check.tell(x, 1, 0, three);
        Check.tell(y, 1, 0, three);
        int came = x.seconds(20);
        int sum = 0;
        for (int i = 0; i < 20; i++) {
            sum += y.seconds(1);
        }
        due("P12 how many came", came, sum);
        due("P12 all came", came, 3);
        Whole.same(CHECK, "P12 twenty seconds", x, y);
    }

    /** "if he is BUSY, that is one less; is it 0 then and he was going, he is at his goal" */
    private static void busyIsOneLess() {
        AngelTown x = new AngelTown();
        x.angel(0, 5);
        Check.tell(x, 2, 0, "go 8;push;");
        for (int left = 4; left >= 0; left--) {
            due("P14 yet at his start", x.at(0, 0), 0);
            x.seconds(1);
            due("P14 BUSY", x.at(0, 2), left);
        }
        due("P14 at his goal", x.at(0, 0), 8);
        due("P14 the next order has not begun", x.at(0, 4), 1);
        x.seconds(1);
        due("P14 the second behind it it has", x.at(0, 4), 0);
        due("P16 in second 5", x.book(0, 0), 5);
    }

    /** "as many seconds as steps (x and y) times PACE" */
    private static void goingTakesStepsTimesPace() {
        int[][] ways = {{0, 63, 9, 126}, {63, 0, 1, 14}, {7, 56, 3, 42}, {0, 7, 9, 63}, {56, 0, 2, 14}, {9, 10, 9, 9}, {27, 20, 4, 8}, {5, 60, 1, 8}};
        for (int[] w : ways) {
            AngelTown x = new AngelTown();
            x.angel(w[0], w[2]);
            Check.tell(x, 2, 0, "go " + w[1] + ";");
            x.seconds(1);
            due("P14 BUSY", x.at(0, 2), w[3] - 1);
            goTo(x, w[3] - 1);
            due("P14 not yet there", x.at(0, 0), w[0]);
            x.seconds(1);
            due("P14 there", x.at(0, 0), w[1]);
            due("P14 not BUSY", x.at(0, 2), 0);
        }
    }

    /** "if these are 0, the next ORDER at once" */
    private static void noStepsTakeNoTime() {
        for (int n = 0; n <= 39; n++) {
            AngelTown x = new AngelTown();
            x.angel(9, 9);
            Check.tell(x, 2, 0, "go 9;".repeat(n) + "door;");
            x.seconds(1);
            due("P16 at once behind " + n, x.book(0, 0), 0);
            due("P14 none is left", x.at(0, 4), 0);
        }
        AngelTown x = new AngelTown();
        x.angel(9, 1);
        Check.tell(x, 2, 0, "go 9;".repeat(40));
        x.seconds(1);
        due("P14 forty, and none is left", x.at(0, 4), 0);
        due("P14 not BUSY", x.at(0, 2), 0);
        Check.tell(x, 2, 0, "go 9;go 11;go 9;");
        x.seconds(1);
        due("P14 the next one takes time", x.at(0, 2), 1);
        due("P14 one is left", x.at(0, 4), 1);
        Check.tell(x, 2, 0, "go 9;wait 2;go 9;cat;");
        x.seconds(2);
        due("P14 he waited for two", x.at(0, 2), 0);
        due("P14 no doing yet", x.at(0, 3), 0);
        x.seconds(1);
        due("P14 now", x.at(0, 3), 1);
    }

    /** "this second being the first one (one less at once; there, if it was the only one)" */
    private static void onlyOneSecond() {
        AngelTown x = new AngelTown();
        x.angel(0, 1);
        Check.tell(x, 2, 0, "go 1;push;go 9;gust;wait 1;cat;");
        int[] places = {1, 1, 9, 9, 9, 9};
        int[] left = {5, 4, 3, 2, 1, 0};
        for (int second = 0; second < 6; second++) {
            x.seconds(1);
            due("P14 never BUSY", x.at(0, 2), 0);
            due("P14 orders left behind " + second, x.at(0, 4), left[second]);
            due("P14 place behind " + second, x.at(0, 0), places[second]);
        }
    }

    private static void waitingTakesSoLong() {
        for (int n = 1; n <= 60; n += n < 3 ? 1 : 19) {
            AngelTown x = new AngelTown();
            x.angel(0, 9);
            Check.tell(x, 2, 0, "wait " + n + ";push;");
            x.seconds(1);
            due("P14 BUSY of " + n, x.at(0, 2), n - 1);
            goTo(x, n);
            due("P14 not BUSY", x.at(0, 2), 0);
            due("P14 no doing yet", x.look(7), 0);
            x.seconds(1);
            due("P16 in the second behind it", x.book(0, 0), n);
        }
    }

    /** "Without an ORDER: nothing." */
    private static void withoutAnOrder() {
        AngelTown x = new AngelTown();
        x.angel(12, 3);
        x.seconds(60);
        due("P14 he is there", x.at(0, 0), 12);
        due("P14 not BUSY", x.at(0, 2), 0);
        due("P14 nothing done", x.at(0, 3), 0);
        Check.tell(x, 2, 0, "push;");
        x.seconds(9);
        due("P14 one doing and nothing more", x.at(0, 3), 1);
        due("P26 one line", x.look(7), 1);
    }

    private static void aDoingTakesItsSecond() {
        AngelTown x = new AngelTown();
        x.angel(0, 1);
        Check.tell(x, 2, 0, "push;gust;glove;door;cat;");
        for (int k = 0; k < 5; k++) {
            x.seconds(1);
            due("P14 DONE", x.at(0, 3), k + 1);
            due("P16 SECOND", x.book(k, 0), k);
            due("P16 KIND", x.book(k, 2), k);
            due("P14 orders left", x.at(0, 4), 4 - k);
        }
    }

    /** "done: DONE ahead of it", "DONE is one more" also if it fails */
    private static void doneAheadOfIt() {
        AngelTown x = new AngelTown();
        x.angel(0, 1);
        x.angel(0, 1);
        Check.tell(x, 3, 0, "works when done=2;fails;");
        Check.tell(x, 2, 0, "push;push;push;push;");
        Check.tell(x, 2, 1, "wait 1;push;push;push;");
        x.seconds(4);
        int[] worked = {0, 0, 0, 1, 0, 0, 1};
        for (int i = 0; i < 7; i++) {
            due("P16 line " + i, x.book(i, 4), worked[i]);
        }
        due("P14 DONE", x.at(0, 3), 4);
        due("P14 DONE", x.at(1, 3), 3);
    }

    /** "if it WORKS, who is at the PLACE stands STILL for PAUSE seconds more" */
    private static void whoIsThereStandsStill() {
        for (int pause = 0; pause <= 9; pause++) {
            AngelTown x = new AngelTown();
            x.set(1, 3, pause);
            x.ward(9);
            x.ward(9);
            x.ward(10);
            x.ward(8);
            x.ward(17);
            x.ward(1);
            x.angel(9, 1);
            Check.tell(x, 0, 0, "east 9;");
            Check.tell(x, 2, 0, "door;");
            x.seconds(1);
            for (int w = 0; w < 6; w++) {
                due("P13 STILL of " + w, x.of(w, 1), w < 2 && pause > 0 ? pause - 1 : 0);
            }
            due("P13 he stands, or goes without a pause", x.of(0, 0), pause > 0 ? 9 : 10);
            due("P13 his way", x.of(0, 2), pause > 0 ? 9 : 8);
            goTo(x, Math.max(1, pause));
            due("P13 he stood for so long", x.of(0, 2), pause > 0 ? 9 : 8);
            x.seconds(1);
            due("P13 then he goes", x.of(0, 2), pause > 0 ? 8 : 7);
        }
    }

    /** "(99 at most)" */
    private static void stillIsNinetyNineAtMost() {
        AngelTown x = new AngelTown();
        x.ward(0);
        x.set(1, 0, 9);
        for (int a = 0; a < 6; a++) {
            x.angel(0, 1);
            Check.tell(x, 2, a, a < 5 ? "push;push;push;" : "push;push;");
        }
        x.seconds(1);
        due("P13 54 less 1", x.of(0, 1), 53);
        x.seconds(1);
        due("P13 107 would be: 99 less 1", x.of(0, 1), 98);
        x.seconds(1);
        due("P13 143 would be: 99 less 1", x.of(0, 1), 98);
        x.seconds(1);
        due("P13 then one less each second", x.of(0, 1), 97);
        int[][] sums = {{9, 99}, {1, 91}, {2, 92}, {8, 98}};
        for (int[] s : sums) {
            // ten doings of 9 in two seconds, then one of a pause: 89, and it
            AngelTown y = new AngelTown();
            y.ward(0);
            y.set(1, 0, 9);
            y.set(1, 1, s[0]);
            for (int a = 0; a < 6; a++) {
                y.angel(0, 1);
                Check.tell(y, 2, a, a < 5 ? "push;push;" : "wait 1;gust;");
            }
            y.seconds(2);
            due("P13 44, 45 and " + s[0] + ", less 1", y.of(0, 1), 44 + 45 + s[0] - 1);
        }
    }

    private static void aDoingThatFailsHoldsNobody() {
        AngelTown x = new AngelTown();
        x.ward(0);
        x.angel(0, 1);
        x.set(1, 0, 9);
        x.set(1, 1, 7);
        Check.tell(x, 3, 0, "fails when kind=0;");
        Check.tell(x, 2, 0, "push;gust;");
        x.seconds(1);
        due("P13 it failed", x.of(0, 1), 0);
        x.seconds(1);
        due("P13 it worked", x.of(0, 1), 6);
    }

    /** (a) goes ahead of (b): who is there is who was there behind the second before. */
    private static void angelsAheadOfWards() {
        AngelTown x = new AngelTown();
        x.set(1, 0, 3);
        x.ward(0);
        x.ward(1);
        x.angel(1, 1);
        Check.tell(x, 0, 0, "east 1;");
        Check.tell(x, 0, 1, "east 1;");
        Check.tell(x, 2, 0, "push;");
        Check.tell(x, 3, 0, "works when wards=1;fails;");
        x.seconds(1);
        due("P16 one was there", x.book(0, 4), 1);
        due("P13 who comes in this second is not held", x.of(0, 1), 0);
        due("P13 who would have gone in it is", x.of(1, 1), 2);
        due("P13 he is there yet", x.of(1, 0), 1);
    }

    /** "ANGEL by ANGEL" */
    private static void angelByAngel() {
        AngelTown x = new AngelTown();
        for (int a = 0; a < 6; a++) {
            x.angel(a, 1);
            Check.tell(x, 2, a, a % 2 == 0 ? "push;wait 1;cat;" : "wait 1;door;gust;");
        }
        x.seconds(3);
        int[] angels = {0, 2, 4, 1, 3, 5, 0, 1, 2, 3, 4, 5};
        int[] seconds = {0, 0, 0, 1, 1, 1, 2, 2, 2, 2, 2, 2};
        for (int i = 0; i < 12; i++) {
            due("P16 angel of line " + i, x.book(i, 1), angels[i]);
            due("P16 second of line " + i, x.book(i, 0), seconds[i]);
            due("P16 place of line " + i, x.book(i, 3), angels[i]);
        }
        due("P26 lines", x.look(7), 12);
    }

    /** "out of THE TOWN he stays" */
    private static void outOfTheTownHeStays() {
        int[][] sizes = {{2, 2}, {8, 8}, {3, 7}, {7, 2}};
        for (int[] wh : sizes) {
            AngelTown x = new AngelTown();
            x.town(wh[0], wh[1]);
            String[] steps = {"north", "east", "south", "west"};
            int east = wh[0] - 1;
            int south = 8 * (wh[1] - 1);
            int[][] want = {{0, east, south + east, south}, {0, east, south + east, south}};
            int[][] start = {{0, east, south + east, south}, {8, east - 1, south + east - 8, south + 1}};
            for (int side = 0; side < 2; side++) {
                for (int i = 0; i < 4; i++) {
                    x.town(wh[0], wh[1]);
                    x.ward(start[side][i]);
                    Check.tell(x, 0, 0, steps[i] + " 9;");
                    for (int n = 1; n <= 9; n++) {
                        x.seconds(1);
                        due("P13 " + steps[i] + " from " + start[side][i], x.of(0, 0), want[side][i]);
                        due("P13 the step is taken all the same", x.of(0, 2), 9 - n);
                    }
                }
            }
        }
    }

    /** "behind the last one he stands" */
    private static void behindTheLastStepHeStands() {
        AngelTown x = new AngelTown();
        x.ward(0);
        x.ward(27);
        Check.tell(x, 0, 0, "east 2;");
        x.seconds(2);
        due("P13 there", x.of(0, 0), 2);
        due("P13 nothing is left", x.of(0, 2), 0);
        x.seconds(60);
        due("P13 there yet", x.of(0, 0), 2);
        due("P13 nothing is left", x.of(0, 2), 0);
        due("P13 who has no way", x.of(1, 0), 27);
    }

    /** "if SECOND is from its first to its last one" */
    private static void fromTheFirstToTheLastSecond() {
        for (int here = 0; here <= 8; here++) {
            // one who is at the place behind second here alone
            AngelTown x = new AngelTown();
            x.ward(0);
            Check.tell(x, 0, 0, (here > 0 ? "stand " + here + ";" : "") + "east 9;");
            Check.tell(x, 1, 0, "mishap 1 at 1 from 3 to 5;mishap 1 at 1 from 4 to 4;mishap 1 at 1 from 0 to 0;mishap 1 at 1 from 8 to 599;");
            x.seconds(20);
            due("P15 from 3 to 5, there in " + here, x.mishap(0, 7), here >= 3 && here <= 5 ? 2 : 0);
            due("P15 4, there in " + here, x.mishap(1, 7), here == 4 ? 2 : 0);
            due("P15 0, there in " + here, x.mishap(2, 7), here == 0 ? 2 : 0);
            due("P15 from 8 on, there in " + here, x.mishap(3, 7), here == 8 ? 2 : 0);
            due("P15 when", x.mishap(0, 8), here >= 3 && here <= 5 ? here : NONE);
        }
    }

    /** "its WARD (or anybody) is at its PLACE" */
    private static void itsWardOrAnybody() {
        for (int there = 0; there < 8; there++) {
            AngelTown x = new AngelTown();
            for (int w = 0; w < 8; w++) {
                x.ward(w == there ? 20 : 21 + w);
            }
            StringBuilder text = new StringBuilder("mishap 1 at 20 from 0 to 9;");
            for (int w = 0; w < 8; w++) {
                text.append("mishap 1 at 20 from 0 to 9 ward ").append(w).append(';');
            }
            Check.tell(x, 1, 0, text.toString());
            due("P12 two come", x.seconds(1), 2);
            due("P15 to anybody", x.mishap(0, 7), 2);
            for (int w = 0; w < 8; w++) {
                due("P15 to ward " + w, x.mishap(1 + w, 7), w == there ? 2 : 0);
            }
        }
        AngelTown x = new AngelTown();
        x.ward(3);
        x.angel(20, 1);
        Check.tell(x, 1, 0, "mishap 1 at 20 from 0 to 9;");
        due("P12 an angel is nobody", x.seconds(9), 0);
    }

    private static void overComesNoMore() {
        AngelTown x = new AngelTown();
        x.ward(0);
        x.angel(0, 1);
        x.set(0, 0, 0);
        x.state(0);
        Check.tell(x, 2, 0, "wait 1;push;");
        Check.tell(x, 1, 0, "mishap 4 at 0 from 0 to 9;mishap 5 at 0 from 1 to 9;mishap 6 at 0 from 2 to 9 chance 63;");
        int[] came = {1, 1, 1, 0, 0};
        for (int i = 0; i < 5; i++) {
            due("P12 in second " + i, x.seconds(1), came[i]);
        }
        for (int i = 0; i < 3; i++) {
            due("P15 came in", x.mishap(i, 8), i);
        }
        due("P15 HAPPENED", x.mishap(0, 7), 2);
        due("P15 AVERTED", x.mishap(1, 7), 1);
        due("P15 PASSED", x.mishap(2, 7), 3);
        due("P26 all HARM that HAPPENED", x.look(10), 4);
        due("P26 how many were AVERTED", x.look(11), 1);
    }

    private static int doneAhead(int guard, int ahead) {
        AngelTown x = new AngelTown();
        x.set(0, 0, guard);
        x.ward(5);
        x.angel(5, 1);
        Check.tell(x, 1, 0, "mishap 10 at 5 from 15 to 15;");
        Check.tell(x, 2, 0, "wait " + (15 - ahead) + ";glove;");
        x.seconds(30);
        return x.mishap(0, 7);
    }

    /** "in one of the seconds from GUARD ahead of this one on (to this one)" */
    private static void guardAheadOfThisOne() {
        for (int guard = 0; guard <= 9; guard++) {
            for (int ahead = -1; ahead <= 11; ahead++) {
                boolean guarded = ahead >= 0 && ahead <= guard;
                due("P15 guard " + guard + ", done " + ahead + " ahead", doneAhead(guard, ahead), guarded ? 1 : 2);
            }
        }
    }

    private static void guardFromTheFirstSecond() {
        for (int second = 0; second <= 10; second++) {
            AngelTown x = new AngelTown();
            x.set(0, 0, 9);
            x.ward(5);
            x.angel(5, 1);
            Check.tell(x, 1, 0, "mishap 10 at 5 from " + second + " to 99;");
            Check.tell(x, 2, 0, "cat;");
            x.seconds(11);
            due("P15 done in second 0, comes in " + second, x.mishap(0, 7), second <= 9 ? 1 : 2);
        }
        AngelTown x = new AngelTown();
        x.ward(5);
        x.angel(5, 1);
        Check.tell(x, 1, 0, "mishap 1 at 5 from 5 to 5;");
        Check.tell(x, 2, 0, "cat;");
        x.seconds(1);
        x.set(0, 0, 9);
        x.seconds(5);
        due("P15 the GUARD of the second in which it comes", x.mishap(0, 7), 1);
    }

    /** "of its KIND (or any)" */
    private static void itsKindOrAny() {
        String[] kinds = {"push", "gust", "glove", "door", "cat"};
        for (int k = 0; k < 5; k++) {
            AngelTown x = new AngelTown();
            x.ward(0);
            x.angel(0, 1);
            StringBuilder text = new StringBuilder("mishap 1 at 0 from 0 to 9;");
            for (String kind : kinds) {
                text.append("mishap 1 at 0 from 0 to 9 unless ").append(kind).append(';');
            }
            Check.tell(x, 1, 0, text.toString());
            Check.tell(x, 2, 0, kinds[k] + ";");
            x.seconds(1);
            due("P15 any", x.mishap(0, 7), 1);
            for (int j = 0; j < 5; j++) {
                due("P15 unless " + kinds[j] + " by " + kinds[k], x.mishap(1 + j, 7), j == k ? 1 : 2);
            }
            due("P16 the set", x.book(0, 5), 1 | 2 << k);
        }
    }

    private static void doingsElsewhereGuardNothing() {
        int[] places = {26, 28, 19, 35, 18, 27};
        for (int p : places) {
            AngelTown x = new AngelTown();
            x.ward(27);
            x.angel(p, 1);
            Check.tell(x, 1, 0, "mishap 1 at 27 from 0 to 0;");
            Check.tell(x, 2, 0, "push;");
            x.seconds(1);
            due("P15 done at " + p, x.mishap(0, 7), p == 27 ? 1 : 2);
            due("P15 by line", x.mishap(0, 9), p == 27 ? 0 : NONE);
        }
        AngelTown x = new AngelTown();
        x.ward(27);
        x.angel(27, 1);
        Check.tell(x, 1, 0, "mishap 1 at 27 from 0 to 0;");
        Check.tell(x, 2, 0, "push;");
        Check.tell(x, 3, 0, "fails;");
        x.seconds(1);
        due("P15 a doing that failed guards nothing", x.mishap(0, 7), 2);
    }

    /** "AVERTED, by the latest such doing" */
    private static void theLatestSuchDoing() {
        AngelTown x = new AngelTown();
        x.set(0, 0, 9);
        x.ward(0);
        x.angel(0, 1);
        x.angel(0, 1);
        x.angel(1, 1);
        // lines: 0 push, 1 gust, 2 elsewhere; 3 push, 4 cat, 5 elsewhere; 6 door fails, 7 cat fails, 8 elsewhere
        Check.tell(x, 2, 0, "push;push;door;");
        Check.tell(x, 2, 1, "gust;cat;cat;");
        Check.tell(x, 2, 2, "push;gust;cat;");
        Check.tell(x, 3, 0, "fails when second=2;");
        Check.tell(x, 1, 0, "mishap 1 at 0 from 4 to 4;mishap 1 at 0 from 4 to 4 unless push;mishap 1 at 0 from 4 to 4 unless gust;"
            + "mishap 1 at 0 from 4 to 4 unless cat;mishap 1 at 0 from 4 to 4 unless door;mishap 1 at 0 from 4 to 4 unless glove;");
        due("P12 all come", x.seconds(5), 6);
        int[] lines = {4, 3, 1, 4, NONE, NONE};
        for (int i = 0; i < 6; i++) {
            due("P15 by line, of " + i, x.mishap(i, 9), lines[i]);
        }
        int[] sets = {0, 4, 0, 2, 9, 0, 0, 0, 0};
        for (int i = 0; i < 9; i++) {
            due("P16 the set of line " + i, x.book(i, 5), sets[i]);
        }
    }

    /** "if CHANCE is below 100, a DRAW of 100: below CHANCE it HAPPENED, else it PASSED; with 100 it HAPPENED" */
    private static void chanceBelowAHundred() {
        int state = 0;
        for (int i = 0; i < 60; i++) {
            int next = 1664525 * state + 1013904223;
            int draw = (next >>> 8) % 100;
            int[] chances = {1, Math.max(1, draw), Math.min(99, draw + 1), 99, 100};
            for (int chance : chances) {
                AngelTown x = new AngelTown();
                x.ward(0);
                x.state(state);
                Check.tell(x, 1, 0, "mishap 7 at 0 from 0 to 0 chance " + chance + ";");
                due("P12 it comes", x.seconds(1), 1);
                boolean happened = chance == 100 || draw < chance;
                due("P15 chance " + chance + ", drawn " + draw, x.mishap(0, 7), happened ? 2 : 3);
                due("P26 STATE", x.look(9), chance == 100 ? state : next);
                due("P26 HARM", x.look(10), happened ? 7 : 0);
            }
            state = next;
        }
    }

    private static void drawsMishapByMishap() {
        AngelTown x = new AngelTown();
        x.ward(0);
        x.angel(1, 1);
        x.ward(1);
        x.state(99);
        Check.tell(x, 2, 0, "push;");
        // the second one is averted, the fourth one is sure, the sixth one does not come: none of these draws
        Check.tell(x, 1, 0, "mishap 1 at 0 from 0 to 0 chance 50;mishap 1 at 1 from 0 to 0 chance 50;mishap 1 at 0 from 0 to 0 chance 50;"
            + "mishap 1 at 0 from 0 to 0;mishap 1 at 0 from 0 to 0 chance 50;mishap 1 at 0 from 1 to 1 chance 50;");
        due("P12 five come", x.seconds(1), 5);
        int state = 99;
        int[] drawn = {0, 2, 4};
        for (int i : drawn) {
            state = 1664525 * state + 1013904223;
            due("P15 in their order, " + i, x.mishap(i, 7), (state >>> 8) % 100 < 50 ? 2 : 3);
        }
        due("P26 three draws", x.look(9), state);
        due("P15 averted", x.mishap(1, 7), 1);
        due("P15 sure", x.mishap(3, 7), 2);
        due("P15 not yet", x.mishap(5, 7), 0);
    }

    /** "A doing WORKS by the first line of THE LAW whose B is so, or that has none (works: yes; fails: no)" */
    private static void worksByTheFirstLine() {
        String[] laws = {"works;fails;", "fails;works;", "works when 1=2;fails;", "fails when 1=2;works;", "works when 1=1;fails when 1=1;",
            "fails when 1=1;works when 1=1;", "fails when 1=2;fails when 2=3;works;fails;", "works when 1=2;"};
        int[] plain = {1, 0, 0, 1, 1, 0, 1, 1};
        int[] spoilt = {1, 0, 0, 1, 1, 0, 1, 0};
        for (int i = 0; i < laws.length; i++) {
            AngelTown x = new AngelTown();
            x.angel(0, 1);
            x.other(0, 1, 1);
            Check.tell(x, 2, 0, "push;push;");
            Check.tell(x, 3, 0, laws[i]);
            x.seconds(2);
            due("P16 by " + laws[i], x.book(0, 4), plain[i]);
            due("P16 spoilt, by " + laws[i], x.book(1, 4), spoilt[i]);
        }
        for (int line = 0; line < 16; line++) {
            AngelTown x = new AngelTown();
            x.angel(0, 1);
            x.other(0, 0, 0);
            Check.tell(x, 2, 0, "push;");
            Check.tell(x, 3, 0, "fails when 1=2;".repeat(line) + "works;" + "fails;".repeat(15 - line));
            x.seconds(1);
            due("P16 by line " + line, x.book(0, 4), 1);
        }
    }

    /** "without one: if it is not spoilt", "spoilt: 1, if one of the OTHERS is there in that second, else 0" */
    private static void withoutALineUnlessSpoilt() {
        for (int o = 0; o < 6; o++) {
            AngelTown x = new AngelTown();
            x.angel(20, 1);
            for (int i = 0; i < 6; i++) {
                x.other(i == o ? 20 : 21 + i, 2, 4);
            }
            Check.tell(x, 2, 0, "push;".repeat(7));
            x.seconds(7);
            for (int second = 0; second < 7; second++) {
                due("P16 other " + o + " in " + second, x.book(second, 4), second >= 2 && second <= 4 ? 0 : 1);
            }
        }
        AngelTown x = new AngelTown();
        x.angel(0, 1);
        x.other(0, 599, 599);
        goTo(x, 598);
        Check.tell(x, 2, 0, "push;push;");
        x.seconds(2);
        due("P16 in 598", x.book(0, 4), 1);
        due("P16 in 599", x.book(1, 4), 0);
    }

    /** "kind; second; x, y: of the PLACE; wards: how many are there; .. angel: his number; .. pace" */
    private static void whatTheLawAsks() {
        String[] values = {"kind", "second", "x", "y", "wards", "spoilt", "angel", "done", "pace"};
        int[] first = {0, 0, 0, 0, 0, 0, 0, 0, 1};
        int[] last = {4, 599, 7, 7, 8, 1, 5, 39, 9};
        for (int i = 0; i < values.length; i++) {
            due("P16 the least " + values[i], leastDoing(values[i] + "=" + first[i]), 1);
            due("P16 not another " + values[i], leastDoing(values[i] + "=" + (first[i] + 1)), 0);
            due("P16 the greatest " + values[i], greatestDoing(values[i] + "=" + last[i]), 1);
            due("P16 not another " + values[i], greatestDoing(values[i] + "=" + (last[i] - 1)), 0);
        }
    }

    private static int leastDoing(String condition) {
        AngelTown x = new AngelTown();
        x.angel(0, 1);
        x.ward(1);
        x.other(1, 0, 599);
        Check.tell(x, 2, 0, "push;");
        Check.tell(x, 3, 0, "works when " + condition + ";fails;");
        x.seconds(1);
        return x.book(0, 4);
    }

    private static int greatestDoing(String condition) {
        AngelTown x = new AngelTown();
        for (int i = 0; i < 8; i++) {
            x.ward(63);
        }
        for (int i = 0; i < 6; i++) {
            x.angel(63, 9);
        }
        x.other(63, 599, 599);
        goTo(x, 560);
        Check.tell(x, 2, 5, "cat;".repeat(40));
        Check.tell(x, 3, 0, "works when " + condition + ";fails;");
        x.seconds(40);
        return x.book(39, 4);
    }

    /** "THE BOOK of doings (100 lines; no more then, and what is not in it guards nothing)" */
    private static void hundredLines() {
        AngelTown x = new AngelTown();
        x.ward(0);
        x.ward(1);
        x.set(0, 0, 0);
        x.set(1, 1, 9);
        for (int a = 0; a < 4; a++) {
            x.angel(0, 1);
            Check.tell(x, 2, a, "push;".repeat(a < 3 ? 25 : 24) + (a < 3 ? "gust;" : "cat;gust;"));
        }
        Check.tell(x, 1, 0, "mishap 3 at 0 from 24 to 24 unless cat;mishap 5 at 0 from 25 to 25 unless gust;mishap 7 at 0 from 23 to 23;");
        due("P17 the book will be full: one is not averted", x.planned(0), 500);
        due("P17 two are", x.planned(1), 2);
        x.seconds(25);
        due("P26 100 lines", x.look(7), 100);
        due("P15 by the 100th", x.mishap(0, 9), 99);
        due("P16 the 100th", x.book(99, 2), 4);
        due("P16 of second 24", x.book(99, 0), 24);
        due("P16 its set", x.book(99, 5), 1);
        due("P15 by the 96th", x.mishap(2, 9), 95);
        x.seconds(1);
        due("P26 no more lines", x.look(7), 100);
        due("P16 no 101st", x.book(100, 0), NONE);
        due("P15 nothing guards", x.mishap(1, 7), 2);
        due("P16 the 100th is as it was", x.book(99, 2), 4);
        due("P14 DONE all the same", x.at(0, 3), 26);
        due("P13 held all the same: four times 9 less 1", x.of(0, 1), 35);
        due("P24 undone", x.undo(), true);
        due("P26 100 lines yet", x.look(7), 100);
        x.undo();
        due("P24 undone once more", x.look(7), 96);
        due("P16 line 96 is gone", x.book(96, 0), NONE);
        due("P16 line 95 is there", x.book(95, 0), 23);
    }

    /** MISHAPS 0 .. 9, all of them: HAPPENED, or AVERTED by one doing */
    private static void tenMishapsAtOnce() {
        for (int pushed = 0; pushed < 2; pushed++) {
            AngelTown x = new AngelTown();
            for (int i = 0; i < 8; i++) {
                x.ward(9);
            }
            for (int a = 0; a < 6; a++) {
                x.angel(9, 1);
            }
            Check.tell(x, 1, 0, "mishap 99 at 9 from 0 to 0;".repeat(10));
            Check.tell(x, 2, 5, pushed == 1 ? "push;" : "wait 1;push;");
            due("P14 WAIT", x.at(5, 6), 9);
            due("P17 PLANNED", x.planned(0), pushed == 1 ? 0 : 99000);
            due("P17 AVERTED", x.planned(1), 10 * pushed);
            due("P12 ten come", x.seconds(1), 10);
            x.seconds(1);
            due("P26 all HARM", x.look(10), pushed == 1 ? 0 : 990);
            due("P26 AVERTED", x.look(11), 10 * pushed);
            due("P16 by one doing", x.book(0, 5), pushed == 1 ? 1023 : 0);
            due("P15 the last one", x.mishap(9, 7), 2 - pushed);
            due("P15 its line", x.mishap(9, 9), pushed == 1 ? 0 : NONE);
            due("P14 nowhere to WAIT", x.at(5, 6), 0);
        }
    }

    /** "NONE if there is none such, or another what" */
    private static void ofHasNoOther() {
        AngelTown x = Whole.lively();
        for (int w = -2; w <= 9; w++) {
            for (int what = -2; what <= 5; what++) {
                boolean known = w >= 0 && w < 3 && what >= 0 && what < 3;
                due("P13 of " + w + " " + what, x.of(w, what) == NONE, !known);
            }
        }
        for (int v : FAR) {
            due("P13 ward " + v, x.of(v, 0), NONE);
            due("P13 what " + v, x.of(0, v), NONE);
        }
    }

    private static void atHasNoOther() {
        AngelTown x = Whole.lively();
        for (int a = -2; a <= 7; a++) {
            for (int what = -2; what <= 9; what++) {
                boolean known = a >= 0 && a < 2 && what >= 0 && what < 7;
                due("P14 at " + a + " " + what, x.at(a, what) == NONE, !known);
            }
        }
        for (int v : FAR) {
            due("P14 angel " + v, x.at(v, 0), NONE);
            due("P14 what " + v, x.at(0, v), NONE);
        }
    }

    /** "NONE - 1 if there is none such, or another what" */
    private static void mishapHasNoOther() {
        AngelTown x = Whole.lively();
        for (int i = -2; i <= 11; i++) {
            for (int what = -2; what <= 13; what++) {
                boolean known = i >= 0 && i < 5 && what >= 0 && what <= 10;
                due("P15 mishap " + i + " " + what, x.mishap(i, what) == NONE - 1, !known);
            }
        }
        for (int v : FAR) {
            due("P15 mishap " + v, x.mishap(v, 0), NONE - 1);
            due("P15 what " + v, x.mishap(0, v), NONE - 1);
        }
        due("P15 none at all", new AngelTown().mishap(0, 0), NONE - 1);
    }

    /** "NONE if there is none such, or another what" */
    private static void bookHasNoOther() {
        AngelTown x = Whole.lively();
        int lines = x.look(7);
        due("P16 there are lines", lines > 1, true);
        for (int i = -2; i <= lines + 2; i++) {
            for (int what = -2; what <= 8; what++) {
                boolean known = i >= 0 && i < lines && what >= 0 && what <= 5;
                due("P16 line " + i + " " + what, x.book(i, what) == NONE, !known);
            }
        }
        for (int v : FAR) {
            due("P16 line " + v, x.book(v, 0), NONE);
            due("P16 what " + v, x.book(0, v), NONE);
        }
    }
}
