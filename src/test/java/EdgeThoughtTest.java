/** The edges of '4. IN THOUGHT' and of promises 17 to 23, sentence by sentence. */
public final class EdgeThoughtTest {
    private static final Check CHECK = new Check("EdgeThoughtTest");
    private static final int NONE = AngelTown.NONE;
    private static final int[] FAR = {Integer.MIN_VALUE, Integer.MIN_VALUE + 1, -600, -64, -3, -2, -1, 64, 600, 1 << 16, Integer.MAX_VALUE - 1,
        Integer.MAX_VALUE};

    public static void main(String[] args) {
        nothingOfItStays();
        foreseenFromNowOn();
        foreseenToTheLastSecond();
        foreseenIfNoAngelDoesMore();
        foreseenOfThoseNotOver();
        riskIsHarmTimesChance();
        plannedToTheLastSecond();
        plannedFromNowOn();
        plannedHasNoOther();
        seesToHowFar();
        seesToFromHisPlace();
        seesToWithoutPlanOrLaw();
        aDoingTakesItsSecond();
        guardAheadNotAheadOfNow();
        oneBehindTheOther();
        inTheBestOrder();
        eachByOneAtMost();
        theFirstOfSeveralWays();
        leastOfNone();
        leastHasNoOther();
        fewestOfNone();
        fewestIsTheLeastSet();
        fewestAheadOfLeast();
        fewestHasNoOther();
        hopelessOfThoseForeseen();
        showsJustOne();
        worthIsWhatIsLost();
        waitJustInTime();
        waitOfSeveralTheLeast();
        whoCouldSeeAlone();
        lotOfOneToSix();
        lotTakesTheGreatest();
        lotInLowestTerms();
        lotOverOrNot();
        nearFromNoneToSixty();
        nearTheFirstSecond();
        nearBehindSomeSecond();
        nearNothingElseDone();
        nearOnTopOfStill();
        nearOfWardsThatAre();
        CHECK.finish();
    }

    private static void due(String what, long got, long want) {
        CHECK.due(what, got, want);
    }

    private static void due(String what, boolean got, boolean want) {
        CHECK.due(what, got, want);
    }

    private static void goTo(AngelTown x, int second) {
        for (int i = 0; i < 600 && x.look(2) < second; i++) {
            x.seconds(Math.min(60, second - x.look(2)));
        }
    }

    /** "IN THOUGHT (nothing of it stays, no DRAWS)" */
    private static void nothingOfItStays() {
        Whole.refused(CHECK, "P17 to P23 thought", x -> {
            for (int round = 0; round < 2; round++) {
                x.planned(round);
                x.least(round);
                x.least(10 + round);
                x.fewest(round);
                x.lot(3, round);
                x.near(0, 1, round);
                x.near(1, 2, round);
                x.at(0, 5 + round);
                x.at(1, 5 + round);
                x.mishap(round, 8);
                x.mishap(round, 10);
                x.hopeless();
                x.shows();
            }
        });
    }

    /** "FORESEEN: the second from now on in which a MISHAP .. COMES" */
    private static void foreseenFromNowOn() {
        AngelTown x = new AngelTown();
        x.ward(0);
        x.ward(63);
        Check.tell(x, 0, 0, "east 2;west 2;east 2;");
        // ward 0 is at 1 behind 0, 2, 4, at 2 behind 1 and from 5 on, at 0 behind 3
        goTo(x, 0);
        int[][] want = {{0, 1, 3, 4, 2, 0}, {2, 1, 3, 4, 2, 1}, {2, 5, 3, 4, 2, 2}, {4, 5, 3, 4, NONE, 3}, {4, 5, NONE, 4, NONE, 4}, {NONE, 5, NONE, NONE, NONE, 5},
            {NONE, 6, NONE, NONE, NONE, 6}};
        for (int second = 0; second < want.length; second++) {
            Check.tell(x, 1, 0, "mishap 1 at 1 from 0 to 99;mishap 1 at 2 from 0 to 99;mishap 1 at 0 from 0 to 99;mishap 1 at 1 from 3 to 4;"
                + "mishap 1 at 1 from 1 to 2;mishap 1 at 63 from 0 to 99;");
            for (int i = 0; i < 6; i++) {
                due("P15 FORESEEN in " + second + " of " + i, x.mishap(i, 8), want[second][i]);
            }
            x.seconds(1);
        }
    }

    private static void foreseenToTheLastSecond() {
        AngelTown x = new AngelTown();
        x.ward(0);
        Check.tell(x, 1, 0, "mishap 1 at 0 from 599 to 599;");
        due("P15 599 from 0", x.mishap(0, 8), 599);
        goTo(x, 599);
        due("P15 599 from 599", x.mishap(0, 8), 599);
        x.seconds(1);
        due("P15 it came", x.mishap(0, 8), 599);
        Check.tell(x, 1, 0, "mishap 1 at 0 from 0 to 599;");
        due("P15 nothing goes by any more", x.mishap(0, 8), NONE);
        due("P17 nothing", x.planned(0), 0);
        due("P18 nothing", x.least(0), 0);
        due("P20 nothing", x.hopeless(), 0);
    }

    /** ".. if no ANGEL does anything more": who stands STILL already stands on */
    private static void foreseenIfNoAngelDoesMore() {
        AngelTown x = new AngelTown();
        x.ward(0);
        x.angel(0, 1);
        x.set(1, 0, 4);
        Check.tell(x, 0, 0, "east 3;");
        Check.tell(x, 2, 0, "push;push;push;");
        Check.tell(x, 1, 0, "mishap 9 at 3 from 0 to 99;");
        due("P15 without the plan", x.mishap(0, 8), 2);
        x.seconds(1);
        due("P15 held by one push", x.mishap(0, 8), 6);
        x.seconds(1);
        due("P15 held by two", x.mishap(0, 8), 10);
        Check.tell(x, 2, 0, "");
        due("P15 the plan is not asked", x.mishap(0, 8), 10);
        x.seconds(9);
        due("P15 then it came", x.mishap(0, 7), 2);
        due("P15 as foreseen", x.mishap(0, 8), 10);
    }

    private static void foreseenOfThoseNotOver() {
        AngelTown x = new AngelTown();
        x.ward(0);
        x.angel(0, 1);
        Check.tell(x, 2, 0, "wait 2;push;");
        Check.tell(x, 1, 0, "mishap 1 at 0 from 0 to 599;mishap 2 at 0 from 0 to 599 chance 1;mishap 4 at 0 from 2 to 599;mishap 8 at 0 from 6 to 599;");
        x.seconds(4);
        int[] over = {2, 3, 1, 0};
        int[] came = {0, 0, 2, 6};
        for (int i = 0; i < 4; i++) {
            due("P15 OVER of " + i, x.mishap(i, 7), over[i]);
            due("P15 when it came or comes, " + i, x.mishap(i, 8), came[i]);
            due("P15 who could see to it, " + i, x.mishap(i, 10), i == 3 ? 1 : 0);
        }
        due("P17 the one that is left", x.planned(0), 800);
        due("P17 none is averted from now on", x.planned(1), 0);
        due("P18 it is seen to", x.least(10), 8);
        due("P21 by one", x.shows(), 8);
    }

    /** "RISK of a MISHAP: HARM times CHANCE" */
    private static void riskIsHarmTimesChance() {
        int[][] risks = {{1, 1}, {99, 100}, {99, 1}, {1, 100}, {50, 37}};
        for (int[] r : risks) {
            AngelTown x = new AngelTown();
            x.ward(0);
            Check.tell(x, 1, 0, "mishap " + r[0] + " at 0 from 3 to 3 chance " + r[1] + ";");
            due("P17 its RISK", x.planned(0), r[0] * r[1]);
            due("P18 its RISK", x.least(0), r[0] * r[1]);
        }
        AngelTown x = new AngelTown();
        x.ward(0);
        Check.tell(x, 1, 0, "mishap 99 at 0 from 0 to 599;".repeat(10));
        due("P17 ten", x.planned(0), 99000);
        due("P18 ten", x.least(0), 99000);
        due("P18 all of them", x.least(1), 1023);
    }

    /** "PLANNED: all seconds go by from now on with PLANS" */
    private static void plannedToTheLastSecond() {
        AngelTown x = new AngelTown();
        x.ward(0);
        x.angel(0, 1);
        Check.tell(x, 1, 0, "mishap 3 at 0 from 599 to 599;mishap 4 at 0 from 598 to 598;");
        Check.tell(x, 2, 0, "wait 60;".repeat(9) + "wait 59;cat;");
        due("P17 averted in the last second", x.planned(1), 1);
        due("P17 the other one comes", x.planned(0), 400);
        Check.tell(x, 2, 0, "wait 60;".repeat(10) + "cat;");
        due("P17 too late", x.planned(1), 0);
        due("P17 both come", x.planned(0), 700);
        Check.tell(x, 2, 0, "wait 60;".repeat(9) + "wait 56;cat;");
        due("P17 both averted", x.planned(1), 2);
        due("P17 none comes", x.planned(0), 0);
        due("P26 no second went by", x.look(2), 0);
    }

    /** RISKS of those that COME from now on, and how many of them are AVERTED */
    private static void plannedFromNowOn() {
        AngelTown x = new AngelTown();
        x.ward(0);
        x.angel(0, 1);
        x.set(0, 0, 0);
        Check.tell(x, 2, 0, "wait 1;cat;wait 1;cat;");
        Check.tell(x, 1, 0, "mishap 1 at 0 from 0 to 0;mishap 2 at 0 from 1 to 1;mishap 4 at 0 from 2 to 2 chance 50;mishap 8 at 0 from 3 to 3;mishap 16 at 0 from 4 to 4;");
        int[] risks = {100 + 200 + 1600, 200 + 1600, 200 + 1600, 1600, 1600, 0};
        int[] averted = {2, 2, 1, 1, 0, 0};
        for (int second = 0; second < 6; second++) {
            due("P17 RISKS in " + second, x.planned(0), risks[second]);
            due("P17 AVERTED in " + second, x.planned(1), averted[second]);
            x.seconds(1);
        }
        AngelTown y = new AngelTown();
        y.ward(0);
        y.angel(0, 1);
        Check.tell(y, 2, 0, "cat;");
        y.seconds(1);
        Check.tell(y, 1, 0, "mishap 1 at 0 from 3 to 3;mishap 2 at 0 from 4 to 4;");
        due("P17 a doing of a while ago guards", y.planned(1), 1);
        due("P17 not for longer", y.planned(0), 200);
    }

    /** "NONE for another what" */
    private static void plannedHasNoOther() {
        AngelTown x = Whole.lively();
        for (int what : FAR) {
            due("P17 what " + what, x.planned(what), NONE);
        }
        due("P17 what 2", x.planned(2), NONE);
        due("P17 none at all", new AngelTown().planned(0), 0);
        due("P17 none at all", new AngelTown().planned(1), 0);
    }

    private static int seenFrom(int place, int pace, int goal, int second) {
        AngelTown x = new AngelTown();
        x.ward(goal);
        x.angel(place, pace);
        Check.tell(x, 1, 0, "mishap 1 at " + goal + " from " + second + " to " + second + ";");
        due("P15 who could", x.mishap(0, 10), x.least(10));
        due("P18 what is left", x.least(1), 1 - x.least(10));
        due("P20 hopeless", x.hopeless(), 1 - x.least(10));
        due("P21 shows", x.shows(), x.least(10));
        due("P14 WORTH", x.at(0, 5), 100 * x.least(10));
        due("P14 WAIT", x.at(0, 6), x.least(10) == 1 ? goal : 0);
        return x.least(10);
    }

    /** "to each he goes (steps times PACE), and does a doing there in a second .. to that second" */
    private static void seesToHowFar() {
        int[][] ways = {{0, 63, 9, 126}, {0, 1, 1, 1}, {9, 9, 9, 0}, {0, 7, 9, 63}, {56, 0, 2, 14}, {27, 20, 4, 8}, {63, 0, 1, 14}};
        for (int[] w : ways) {
            if (w[3] > 0) {
                due("P18 a second too late", seenFrom(w[0], w[2], w[1], w[3] - 1), 0);
            }
            due("P18 just in time", seenFrom(w[0], w[2], w[1], w[3]), 1);
            due("P18 with a second to wait", seenFrom(w[0], w[2], w[1], w[3] + 1), 1);
            due("P18 with long to wait", seenFrom(w[0], w[2], w[1], 599), 1);
        }
    }

    /** "(from his PLACE, from now on; ..": one on his way is yet where he set out, and his BUSY is not asked */
    private static void seesToFromHisPlace() {
        AngelTown x = new AngelTown();
        x.ward(0);
        x.ward(7);
        x.angel(0, 1);
        Check.tell(x, 2, 0, "go 7;wait 60;");
        Check.tell(x, 1, 0, "mishap 1 at 0 from 6 to 6;mishap 2 at 7 from 12 to 12;");
        x.seconds(6);
        due("P14 BUSY", x.at(0, 2), 1);
        due("P14 where he set out", x.at(0, 0), 0);
        due("P18 the one there he could see to", x.mishap(0, 10), 1);
        due("P18 to the other he would come too late", x.mishap(1, 10), 0);
        x.seconds(1);
        due("P18 there he is in time", x.mishap(1, 10), 1);
        x.seconds(4);
        due("P18 while he waits too", x.mishap(1, 10), 1);
    }

    /** ".. PLAN, BUSY, THE LAW not asked" */
    private static void seesToWithoutPlanOrLaw() {
        AngelTown x = new AngelTown();
        x.ward(1);
        x.angel(0, 1);
        x.other(1, 0, 599);
        Check.tell(x, 1, 0, "mishap 1 at 1 from 3 to 3 unless glove;mishap 1 at 1 from 3 to 3 unless cat;mishap 1 at 1 from 3 to 3;");
        due("P18 spoilt or not", x.least(10), 7);
        Check.tell(x, 3, 0, "fails;");
        due("P18 the law is not asked", x.least(10), 7);
        Check.tell(x, 2, 0, "go 63;wait 60;");
        due("P18 the plan is not asked", x.least(10), 7);
        due("P18 nothing is left", x.least(0), 0);
        due("P17 but by the plan all come", x.planned(0), 300);
    }

    /** "it takes that second" */
    private static void aDoingTakesItsSecond() {
        for (int guard = 0; guard <= 9; guard++) {
            AngelTown x = new AngelTown();
            x.ward(0);
            x.angel(0, 1);
            x.set(0, 0, guard);
            Check.tell(x, 1, 0, "mishap 1 at 0 from 20 to 20;".repeat(10));
            int seen = Math.min(10, guard + 1);
            due("P18 so many in the seconds from guard " + guard + " on", x.least(0), 100 * (10 - seen));
            due("P18 the first ones of them", x.least(10), (1 << seen) - 1);
        }
    }

    /** "in a second from GUARD ahead of what is FORESEEN on (not ahead of now)" */
    private static void guardAheadNotAheadOfNow() {
        for (int ahead = 0; ahead <= 9; ahead++) {
            AngelTown x = new AngelTown();
            x.ward(0);
            x.angel(0, 1);
            x.set(0, 0, 9);
            goTo(x, 20 - ahead);
            Check.tell(x, 1, 0, "mishap 1 at 0 from 20 to 20;".repeat(10));
            due("P18 from " + ahead + " ahead on", x.least(0), 100 * (9 - ahead));
        }
        // he must not do the first one too early: at 0 from 17 on, then seven steps to 7 by 24
        int[] seconds = {23, 24, 25, 26};
        for (int second : seconds) {
            AngelTown x = new AngelTown();
            x.ward(0);
            x.ward(7);
            x.angel(0, 1);
            Check.tell(x, 1, 0, "mishap 1 at 0 from 20 to 20;mishap 1 at 7 from " + second + " to " + second + ";");
            // done in 17, free in 18, there in 25
            due("P18 both by " + second, x.least(0), second >= 25 ? 0 : 100);
        }
    }

    /** "sees to some MISHAPS that are FORESEEN, one behind the other", in whatever order */
    private static void oneBehindTheOther() {
        AngelTown x = new AngelTown();
        x.set(0, 0, 0);
        x.ward(0);
        x.ward(3);
        x.angel(1, 2);
        Check.tell(x, 1, 0, "mishap 1 at 3 from 11 to 11;mishap 1 at 0 from 4 to 4;");
        due("P18 there in 2, done in 4, free in 5, there in 11", x.least(10), 3);
        Check.tell(x, 1, 0, "mishap 1 at 3 from 10 to 10;mishap 1 at 0 from 4 to 4;");
        due("P18 a second too late", x.least(0), 100);
        due("P18 the lesser set", x.least(10), 1);
        x.set(2, 0, 1);
        due("P18 a faster one", x.least(0), 0);
        // the later one first, as its guard is long and the way leads by there
        AngelTown y = new AngelTown();
        y.set(0, 0, 9);
        y.ward(2);
        y.ward(4);
        y.angel(0, 1);
        Check.tell(y, 1, 0, "mishap 1 at 4 from 5 to 5;mishap 1 at 2 from 6 to 6;");
        due("P18 at 2 in 2, free in 3, at 4 in 5", y.least(10), 3);
    }

    /** Four in a row of places, told in every order of their numbers: there is one order in time that sees to all. */
    private static void inTheBestOrder() {
        int[][] orders = {{1, 2, 3, 4}, {1, 2, 4, 3}, {1, 3, 2, 4}, {1, 3, 4, 2}, {1, 4, 2, 3}, {1, 4, 3, 2}, {2, 1, 3, 4}, {2, 1, 4, 3},
            {2, 3, 1, 4}, {2, 3, 4, 1}, {2, 4, 1, 3}, {2, 4, 3, 1}, {3, 1, 2, 4}, {3, 1, 4, 2}, {3, 2, 1, 4}, {3, 2, 4, 1}, {3, 4, 1, 2},
            {3, 4, 2, 1}, {4, 1, 2, 3}, {4, 1, 3, 2}, {4, 2, 1, 3}, {4, 2, 3, 1}, {4, 3, 1, 2}, {4, 3, 2, 1}};
        for (int[] order : orders) {
            for (int last = 6; last <= 8; last++) {
                AngelTown x = new AngelTown();
                x.set(0, 0, 9);
                x.angel(0, 1);
                StringBuilder text = new StringBuilder();
                for (int place : order) {
                    x.ward(place);
                    int second = place == 4 ? last : 7;
                    text.append("mishap 1 at ").append(place).append(" from ").append(second).append(" to ").append(second).append(';');
                }
                Check.tell(x, 1, 0, text.toString());
                // at 1 in 1, at 2 in 3, at 3 in 5, at 4 in 7
                due("P18 all four by " + last, x.least(0), last >= 7 ? 0 : 100);
            }
        }
    }

    /** "each MISHAP seen to by one ANGEL at most" */
    private static void eachByOneAtMost() {
        AngelTown x = new AngelTown();
        for (int w = 0; w < 8; w++) {
            x.ward(w);
        }
        for (int a = 0; a < 6; a++) {
            x.angel(a, 1 + a);
        }
        StringBuilder text = new StringBuilder();
        for (int i = 0; i < 10; i++) {
            text.append("mishap ").append(5 + i).append(" at ").append(i % 8).append(" from ").append(i).append(" to ").append(i).append(';');
        }
        Check.tell(x, 1, 0, text.toString());
        int seen = 0;
        int risk = 0;
        for (int a = 0; a < 6; a++) {
            due("P18 nobody sees to what another sees to", seen & x.least(10 + a), 0);
            seen |= x.least(10 + a);
        }
        for (int i = 0; i < 10; i++) {
            risk += (seen >> i & 1) == 0 ? 100 * (5 + i) : 0;
        }
        due("P18 what is left", x.least(1), 1023 & ~seen);
        due("P18 its RISK", x.least(0), risk);
    }

    /** "of several ways the first (ANGEL 0's set the least as a number, then ANGEL 1's ..)" */
    private static void theFirstOfSeveralWays() {
        AngelTown x = new AngelTown();
        x.set(0, 0, 0);
        x.ward(0);
        x.angel(0, 1);
        x.angel(0, 1);
        x.angel(0, 1);
        Check.tell(x, 1, 0, "mishap 1 at 0 from 3 to 3;".repeat(3));
        due("P18 each must do one", x.least(10), 1);
        due("P18 the next", x.least(11), 2);
        due("P18 the next", x.least(12), 4);
        Check.tell(x, 1, 0, "mishap 1 at 0 from 3 to 3;mishap 1 at 0 from 3 to 3;");
        due("P18 angel 0 need not", x.least(10), 0);
        due("P18 angel 1 the lesser one", x.least(11), 1);
        due("P18 angel 2 the other one", x.least(12), 2);
        Check.tell(x, 1, 0, "mishap 1 at 0 from 3 to 3;mishap 1 at 0 from 4 to 4;mishap 1 at 0 from 3 to 3;mishap 1 at 0 from 4 to 4;");
        due("P18 of two seconds angel 0 none", x.least(10), 0);
        due("P18 angel 1 the least set", x.least(11), 3);
        due("P18 angel 2 the rest", x.least(12), 12);
        Check.tell(x, 1, 0, "mishap 1 at 0 from 3 to 3;".repeat(5));
        due("P18 of five three: the first", x.least(10), 1);
        due("P18 the second", x.least(11), 2);
        due("P18 the third", x.least(12), 4);
        due("P18 the last ones are left", x.least(1), 24);
    }

    private static void leastOfNone() {
        AngelTown x = new AngelTown();
        due("P18 nothing at all", x.least(0), 0);
        due("P18 nothing is left", x.least(1), 0);
        x.angel(0, 1);
        due("P18 he sees to nothing", x.least(10), 0);
        Check.tell(x, 1, 0, "mishap 9 at 0 from 0 to 599;");
        due("P18 nobody to whom it comes", x.least(0), 0);
        due("P18 it is not foreseen", x.least(1), 0);
        x.ward(0);
        due("P18 now it is seen to", x.least(10), 1);
        x.ward(63);
        Check.tell(x, 1, 0, "mishap 9 at 63 from 13 to 13;");
        due("P18 nothing that he could see to", x.least(10), 0);
        due("P18 it is left", x.least(1), 1);
        due("P18 its RISK", x.least(0), 900);
    }

    private static void leastHasNoOther() {
        AngelTown x = Whole.lively();
        for (int what : FAR) {
            due("P18 what " + what, x.least(what), NONE);
        }
        for (int what = 2; what <= 30; what++) {
            due("P18 what " + what, x.least(what) == NONE, what != 10 && what != 11);
        }
    }

    private static void fewestOfNone() {
        AngelTown x = new AngelTown();
        due("P19 none", x.fewest(0), 0);
        due("P19 no set", x.fewest(1), 0);
        x.ward(1);
        x.angel(0, 9);
        x.angel(0, 9);
        Check.tell(x, 1, 0, "mishap 9 at 1 from 8 to 8;");
        due("P19 nobody can, so nobody is needed", x.fewest(0), 0);
        due("P19 the empty set", x.fewest(1), 0);
        Check.tell(x, 1, 0, "mishap 9 at 1 from 9 to 9;");
        due("P19 one", x.fewest(0), 1);
        due("P19 the first one", x.fewest(1), 1);
    }

    /** "the fewest ANGELS with whom alone LEAST is as with all: how many; the least set" */
    private static void fewestIsTheLeastSet() {
        for (int n = 1; n <= 6; n++) {
            AngelTown x = new AngelTown();
            x.set(0, 0, 0);
            x.ward(0);
            for (int a = 0; a < 6; a++) {
                x.angel(0, 1);
            }
            Check.tell(x, 1, 0, "mishap 1 at 0 from 3 to 3;".repeat(n));
            due("P19 so many", x.fewest(0), n);
            due("P19 the first ones", x.fewest(1), (1 << n) - 1);
        }
        AngelTown x = new AngelTown();
        x.set(0, 0, 0);
        x.ward(0);
        x.ward(7);
        int[] places = {3, 1, 6, 0, 7, 4};
        for (int p : places) {
            x.angel(p, 1);
        }
        Check.tell(x, 1, 0, "mishap 1 at 0 from 1 to 1;mishap 1 at 7 from 1 to 1;");
        due("P19 two", x.fewest(0), 2);
        due("P19 angels 1 and 2", x.fewest(1), 6);
        Check.tell(x, 1, 0, "mishap 1 at 0 from 1 to 1;mishap 1 at 7 from 0 to 0;");
        due("P19 angels 1 and 4", x.fewest(1), 18);
        Check.tell(x, 1, 0, "mishap 1 at 0 from 0 to 0;mishap 1 at 7 from 0 to 0;");
        due("P19 angels 3 and 4", x.fewest(1), 24);
        Check.tell(x, 1, 0, "mishap 1 at 0 from 0 to 0;mishap 1 at 7 from 7 to 7;");
        due("P19 none is enough for both but two: 0 and 3", x.fewest(1), 9);
        Check.tell(x, 1, 0, "mishap 1 at 0 from 0 to 0;mishap 1 at 7 from 8 to 8;");
        due("P19 angel 3 alone is enough", x.fewest(1), 8);
    }

    /** Fewer ones go ahead of a set that is less as a number. */
    private static void fewestAheadOfLeast() {
        AngelTown x = new AngelTown();
        x.set(0, 0, 0);
        x.ward(0);
        x.ward(7);
        x.angel(0, 9);
        x.angel(7, 9);
        x.angel(0, 1);
        Check.tell(x, 1, 0, "mishap 1 at 0 from 0 to 0;mishap 1 at 7 from 8 to 8;");
        due("P19 one", x.fewest(0), 1);
        due("P19 angel 2, not 0 and 1", x.fewest(1), 4);
        Check.tell(x, 1, 0, "mishap 1 at 0 from 0 to 0;mishap 1 at 7 from 7 to 7;");
        due("P19 two", x.fewest(0), 2);
        due("P19 angels 0 and 1", x.fewest(1), 3);
    }

    private static void fewestHasNoOther() {
        AngelTown x = Whole.lively();
        for (int what : FAR) {
            due("P19 what " + what, x.fewest(what), NONE);
        }
        due("P19 what 2", x.fewest(2), NONE);
    }

    /** "HOPELESS: MISHAPS that are FORESEEN, and to which no ANGEL could see even alone" */
    private static void hopelessOfThoseForeseen() {
        AngelTown x = new AngelTown();
        x.ward(3);
        Check.tell(x, 1, 0, "mishap 1 at 3 from 2 to 2;mishap 1 at 3 from 3 to 3;mishap 1 at 4 from 0 to 99;mishap 1 at 3 from 0 to 0;");
        due("P20 without angels all that are foreseen", x.hopeless(), 11);
        x.angel(0, 1);
        due("P20 with one", x.hopeless(), 9);
        x.angel(2, 2);
        due("P20 with two", x.hopeless(), 8);
        x.angel(3, 9);
        due("P20 with one there", x.hopeless(), 0);
        x.seconds(1);
        due("P20 what is over is not hopeless", x.hopeless(), 0);
        AngelTown y = new AngelTown();
        y.set(0, 0, 0);
        y.ward(0);
        y.angel(0, 1);
        Check.tell(y, 1, 0, "mishap 1 at 0 from 0 to 0;mishap 1 at 0 from 0 to 0;");
        due("P18 one of two is left", y.least(1), 2);
        due("P20 but alone he could see to it", y.hopeless(), 0);
        due("P21 and shows himself by both", y.shows(), 3);
    }

    /** "SHOWS: MISHAPS to which just one ANGEL could see alone" */
    private static void showsJustOne() {
        AngelTown x = new AngelTown();
        x.ward(0);
        Check.tell(x, 1, 0, "mishap 1 at 0 from 2 to 2;mishap 1 at 0 from 4 to 4;mishap 1 at 0 from 6 to 6;mishap 1 at 9 from 0 to 99;");
        due("P21 none", x.shows(), 0);
        x.angel(2, 1);
        due("P21 one", x.shows(), 7);
        x.angel(2, 2);
        due("P21 two", x.shows(), 1);
        x.angel(2, 3);
        due("P21 three", x.shows(), 1);
        due("P15 who could", x.mishap(0, 10), 1);
        due("P15 who could", x.mishap(1, 10), 3);
        due("P15 who could", x.mishap(2, 10), 7);
    }

    /** "WORTH of an ANGEL: LEAST without him less LEAST" */
    private static void worthIsWhatIsLost() {
        AngelTown x = new AngelTown();
        x.set(0, 0, 0);
        x.ward(0);
        x.ward(7);
        x.angel(0, 1);
        x.angel(1, 1);
        x.angel(7, 1);
        due("P14 of nothing", x.at(0, 5), 0);
        Check.tell(x, 1, 0, "mishap 10 at 0 from 1 to 1;mishap 4 at 0 from 1 to 1;mishap 50 at 7 from 0 to 0 chance 3;mishap 2 at 0 from 1 to 1;");
        due("P18 one is left", x.least(0), 200);
        due("P14 the other one would take the greater one", x.at(0, 5), 400);
        due("P14 likewise", x.at(1, 5), 400);
        due("P14 nobody else is at 7", x.at(2, 5), 150);
    }

    /** "WAIT of an ANGEL: the PLACE at which, if he went there now and stayed .. for which he is there in time" */
    private static void waitJustInTime() {
        for (int second = 5; second <= 9; second++) {
            AngelTown x = new AngelTown();
            x.ward(3);
            x.ward(60);
            x.angel(0, 2);
            Check.tell(x, 1, 0, "mishap 2 at 3 from " + second + " to " + second + ";mishap 1 at 60 from 99 to 99;");
            due("P14 six seconds off, by " + second, x.at(0, 6), second >= 6 ? 3 : 60);
        }
        AngelTown x = new AngelTown();
        x.ward(3);
        x.ward(4);
        x.angel(3, 9);
        Check.tell(x, 1, 0, "mishap 2 at 3 from 0 to 0;mishap 2 at 3 from 50 to 50;mishap 3 at 4 from 9 to 9;mishap 9 at 4 from 8 to 8;");
        due("P14 all that are foreseen there, from now on", x.at(0, 6), 3);
        x.seconds(1);
        due("P14 what is over counts no more, and 4 is too far by now", x.at(0, 6), 3);
        x.set(2, 0, 7);
        due("P14 a faster one is at 4 in 8", x.at(0, 6), 4);
    }

    /** "of several the least" */
    private static void waitOfSeveralTheLeast() {
        AngelTown x = new AngelTown();
        x.ward(0);
        x.angel(63, 1);
        due("P14 none anywhere", x.at(0, 6), 0);
        x.ward(5);
        x.ward(40);
        x.ward(63);
        Check.tell(x, 1, 0, "mishap 4 at 63 from 50 to 50;mishap 1 at 40 from 50 to 50;mishap 3 at 40 from 60 to 60;mishap 8 at 5 from 50 to 50 chance 50;");
        due("P14 three are alike", x.at(0, 6), 5);
        Check.tell(x, 1, 0, "mishap 4 at 63 from 50 to 50;mishap 1 at 40 from 50 to 50;mishap 3 at 40 from 60 to 60;mishap 8 at 5 from 50 to 50 chance 49;");
        due("P14 two are alike", x.at(0, 6), 40);
        Check.tell(x, 1, 0, "mishap 4 at 63 from 50 to 50;mishap 1 at 40 from 50 to 50;mishap 3 at 40 from 60 to 60 chance 99;");
        due("P14 one is most", x.at(0, 6), 63);
        Check.tell(x, 1, 0, "mishap 4 at 63 from 50 to 50;mishap 4 at 0 from 50 to 50;mishap 3 at 5 from 50 to 50;");
        due("P14 the first place of all", x.at(0, 6), 0);
        Check.tell(x, 1, 0, "mishap 4 at 63 from 50 to 50;mishap 3 at 0 from 50 to 50;mishap 4 at 5 from 50 to 50;");
        due("P14 not it", x.at(0, 6), 5);
    }

    /** "10 the ANGELS who could see to it alone (a set; 0 if it is OVER or not FORESEEN)" */
    private static void whoCouldSeeAlone() {
        AngelTown x = new AngelTown();
        x.ward(0);
        for (int a = 0; a < 6; a++) {
            x.angel(5 - a, 1);
        }
        Check.tell(x, 1, 0, "mishap 1 at 0 from 0 to 0;mishap 1 at 0 from 1 to 1;mishap 1 at 0 from 4 to 4;mishap 1 at 0 from 5 to 5;mishap 1 at 1 from 0 to 99;");
        int[] want = {32, 48, 62, 63, 0};
        for (int i = 0; i < 5; i++) {
            due("P15 who could see to " + i, x.mishap(i, 10), want[i]);
        }
        x.seconds(1);
        due("P15 OVER", x.mishap(0, 10), 0);
        due("P15 a second later", x.mishap(1, 10), 32);
    }

    private static AngelTown harms(int... harms) {
        AngelTown x = new AngelTown();
        StringBuilder text = new StringBuilder();
        for (int h : harms) {
            text.append("mishap ").append(h).append(" at 0 from 0 to 0;");
        }
        Check.tell(x, 1, 0, text.toString());
        return x;
    }

    private static void lot(AngelTown x, int set, long number, long by) {
        due("P22 number of " + set, x.lot(set, 0), number);
        due("P22 by which of " + set, x.lot(set, 1), by);
    }

    /** "LOT of a set of 1 to 6 MISHAPS", "NONE if one can't be, or another what" */
    private static void lotOfOneToSix() {
        AngelTown x = harms(6, 6, 6, 6, 6, 6, 6, 6, 6, 6);
        // 6 (m - 1) by m
        int[] numbers = {0, 0, 3, 4, 9, 24, 5};
        int[] by = {0, 1, 1, 1, 2, 5, 1};
        for (int set = 0; set <= 1025; set++) {
            int m = Integer.bitCount(set);
            boolean can = m >= 1 && m <= 6 && set < 1024;
            due("P22 number of " + set, x.lot(set, 0), can ? numbers[m] : NONE);
            due("P22 by which of " + set, x.lot(set, 1), can ? by[m] : NONE);
        }
        for (int set : FAR) {
            if (set < 0 || set > 1023) {
                due("P22 set " + set, x.lot(set, 0), NONE);
                due("P22 set " + set, x.lot(set, 1), NONE);
            }
            due("P22 what " + set, x.lot(1, set), NONE);
        }
        due("P22 what 2", x.lot(1, 2), NONE);
        AngelTown y = harms(3, 4);
        due("P22 the last one there is", y.lot(2, 1), 1);
        due("P22 one there is not", y.lot(4, 1), NONE);
        due("P22 with one there is not", y.lot(7, 1), NONE);
        due("P22 none there is", new AngelTown().lot(1, 0), NONE);
    }

    /** "the greatest of (m - 1) by the sum of 1 by HARM of the m greatest HARMS, m from 1 on" */
    private static void lotTakesTheGreatest() {
        // 60 and 30: 20; with a third one of 20 it is 2 / (1/60 + 1/30 + 1/20) = 20 as well, of 21 more, of 19 less
        lot(harms(60, 30, 20), 7, 20, 1);
        lot(harms(60, 30, 21), 7, 840, 41);
        lot(harms(60, 30, 19), 7, 20, 1);
        lot(harms(19, 60, 30), 7, 20, 1);
        lot(harms(1, 1, 99, 1, 1, 99), 63, 99, 2);
        lot(harms(1, 1, 1, 1, 1, 99), 63, 495, 496);
        lot(harms(2, 99), 3, 198, 101);
        lot(harms(99, 99, 99, 99, 99, 1), 63, 396, 5);
    }

    /** "as a fraction in lowest terms (0: 0 by 1)" */
    private static void lotInLowestTerms() {
        for (int h = 1; h <= 99; h++) {
            lot(harms(h), 1, 0, 1);
            // two alike: h / 2
            lot(harms(h, h), 3, h % 2 == 0 ? h / 2 : h, h % 2 == 0 ? 1 : 2);
        }
        lot(harms(97, 96, 95, 94, 93, 91), 63, 195486272800L, 2487846583L);
        lot(harms(99, 98, 97, 95, 89, 83), 63, 3302134154550L, 42547888753L);
    }

    /** "(OVER or not)" */
    private static void lotOverOrNot() {
        AngelTown x = new AngelTown();
        x.ward(0);
        Check.tell(x, 1, 0, "mishap 5 at 0 from 0 to 0;mishap 7 at 0 from 0 to 0 chance 1;mishap 9 at 1 from 0 to 0;");
        x.seconds(5);
        due("P15 OVER", x.mishap(0, 7), 2);
        due("P15 OVER", x.mishap(1, 7), 3);
        lot(x, 3, 35, 12);
        lot(x, 5, 45, 14);
        lot(x, 6, 63, 16);
    }

    /** One leaves a place at once; the other one is there behind second later alone, and nowhere else meets him. */
    private static AngelTown leaves(int later) {
        AngelTown x = new AngelTown();
        x.ward(0);
        x.ward(9);
        Check.tell(x, 0, 0, "east 60;");
        String stands = later > 60 ? "stand 60;stand " + (later - 60) + ";" : later > 0 ? "stand " + later + ";" : "";
        Check.tell(x, 0, 1, stands + "north 1;south 1;west 1;");
        return x;
    }

    /** "the least number of seconds (0 .. 60)", "NONE if not by 60" */
    private static void nearFromNoneToSixty() {
        for (int later = 0; later <= 63; later++) {
            AngelTown x = leaves(later);
            // held for as long as the other one stands, he comes to 1 just as the other one does
            int want = later <= 60 ? later : NONE;
            due("P23 held for " + later, x.near(0, 1, 0), want);
            due("P23 in which second", x.near(0, 1, 1), want);
        }
    }

    /** "the first such second" */
    private static void nearTheFirstSecond() {
        AngelTown x = new AngelTown();
        x.ward(0);
        x.ward(2);
        x.ward(63);
        Check.tell(x, 0, 0, "east 4;west 4;");
        due("P23 there in 1 and in 5", x.near(0, 1, 1), 1);
        due("P23 no hold", x.near(0, 1, 0), 0);
        x.seconds(2);
        due("P23 then in 5 alone", x.near(0, 1, 1), 5);
        x.seconds(4);
        due("P23 now never by itself", x.near(0, 1, 0), 1);
        due("P23 held where he is", x.near(0, 1, 1), 6);
        x.seconds(1);
        due("P23 no more", x.near(0, 1, 0), NONE);
        due("P23 never", x.near(0, 2, 0), NONE);
        due("P23 never", x.near(0, 2, 1), NONE);
        Check.tell(x, 0, 2, "north 7;west 7;");
        due("P23 in the last of them", x.near(2, 0, 1), x.look(2) + 13);
    }

    /** "behind some second": now is none, 599 is the last */
    private static void nearBehindSomeSecond() {
        AngelTown x = new AngelTown();
        x.ward(0);
        x.ward(0);
        due("P23 both stand", x.near(0, 1, 1), 0);
        Check.tell(x, 0, 1, "east 1;");
        due("P23 together now, not behind a second", x.near(0, 1, 0), NONE);
        due("P23 unless he is held who leaves", x.near(1, 0, 0), 1);
        Check.tell(x, 0, 1, "");
        goTo(x, 599);
        due("P23 behind 599", x.near(0, 1, 1), 599);
        Check.tell(x, 0, 1, "east 1;");
        due("P23 not by then", x.near(0, 1, 0), NONE);
        due("P23 held", x.near(1, 0, 0), 1);
        due("P23 in 599", x.near(1, 0, 1), 599);
        Check.tell(x, 0, 1, "");
        x.seconds(1);
        due("P23 no second goes by any more", x.near(0, 1, 0), NONE);
        due("P23 none", x.near(0, 1, 1), NONE);
        AngelTown y = new AngelTown();
        y.ward(0);
        y.ward(7);
        goTo(y, 593);
        Check.tell(y, 0, 0, "east 7;");
        due("P23 there in 599", y.near(0, 1, 1), 599);
        y.seconds(1);
        Check.tell(y, 0, 0, "east 7;");
        due("P23 there in 599 yet", y.near(0, 1, 1), 599);
        Check.tell(y, 0, 0, "stand 1;east 7;");
        due("P23 too late by a second", y.near(0, 1, 0), NONE);
    }

    /** "(nothing else done)" */
    private static void nearNothingElseDone() {
        AngelTown x = leaves(3);
        x.angel(0, 1);
        x.angel(9, 1);
        x.set(1, 0, 9);
        Check.tell(x, 2, 0, "push;");
        Check.tell(x, 2, 1, "push;");
        due("P23 the plans are not asked", x.near(0, 1, 0), 3);
        due("P23 in second 3", x.near(0, 1, 1), 3);
    }

    /** "stands STILL more": those that he stands already come on top */
    private static void nearOnTopOfStill() {
        AngelTown x = leaves(8);
        x.angel(0, 1);
        x.set(1, 0, 5);
        Check.tell(x, 2, 0, "push;");
        due("P23 without the push", x.near(0, 1, 0), 8);
        x.seconds(1);
        due("P13 four seconds yet", x.of(0, 1), 4);
        due("P23 three more", x.near(0, 1, 0), 3);
        due("P23 in the same second", x.near(0, 1, 1), 8);
        due("P23 of the other one", x.near(1, 0, 0), NONE);
    }

    /** "one can't be (one WARD), or another what" */
    private static void nearOfWardsThatAre() {
        AngelTown x = new AngelTown();
        for (int w = 0; w < 3; w++) {
            x.ward(9);
        }
        for (int a = -2; a <= 9; a++) {
            for (int b = -2; b <= 9; b++) {
                boolean can = a >= 0 && a < 3 && b >= 0 && b < 3 && a != b;
                due("P23 near " + a + " " + b, x.near(a, b, 0), can ? 0 : NONE);
                due("P23 second of " + a + " " + b, x.near(a, b, 1), can ? 0 : NONE);
            }
        }
        for (int v : FAR) {
            due("P23 ward " + v, x.near(v, 1, 0), NONE);
            due("P23 ward " + v, x.near(1, v, 0), NONE);
            due("P23 what " + v, x.near(0, 1, v), NONE);
        }
        due("P23 what 2", x.near(0, 1, 2), NONE);
    }
}
