/** Promises 17 to 23, and what at() tells of WORTH and WAIT: what is only thought. */
public final class ThoughtTest {
    private static final Check CHECK = new Check("ThoughtTest");
    private static final int NONE = AngelTown.NONE;

    public static void main(String[] args) {
        plannedGoesOnToTheEnd();
        plannedHoldsPeople();
        thoughtLeavesNothing();
        leastByTwo();
        leastTakesTheFirstWay();
        leastInAnotherOrder();
        leastOfSeveralSets();
        guardFromNowOn();
        fewestAngels();
        allTenAndAllSix();
        hopelessAndShows();
        whereToWait();
        lots();
        nearness();
        CHECK.finish();
    }

    private static void due(String what, long got, long want) {
        CHECK.due(what, got, want);
    }

    private static void plannedGoesOnToTheEnd() {
        AngelTown x = new AngelTown();
        x.ward(0);
        x.ward(1);
        x.angel(0, 1);
        Check.tell(x, 1, 0, "mishap 5 at 0 from 2 to 2;mishap 7 at 0 from 599 to 599;mishap 11 at 0 from 0 to 0 chance 3;"
            + "mishap 13 at 1 from 9 to 9;mishap 90 at 7 from 0 to 599;");
        due("P17 all that come", x.planned(0), 500 + 700 + 33 + 1300);
        due("P17 none averted", x.planned(1), 0);
        Check.tell(x, 2, 0, "wait 1;cat;go 1;wait 5;cat;");
        due("P17 without those averted", x.planned(0), 700 + 33);
        due("P17 two averted", x.planned(1), 2);
        x.seconds(3);
        due("P17 those that are yet to come", x.planned(0), 700);
        due("P17 one yet to be averted", x.planned(1), 1);
        due("P17 what 2", x.planned(2), NONE);
        due("P17 what -1", x.planned(-1), NONE);
    }

    private static void plannedHoldsPeople() {
        AngelTown x = new AngelTown();
        x.ward(0);
        x.angel(0, 1);
        x.set(1, 1, 2);
        Check.tell(x, 0, 0, "east 1;");
        Check.tell(x, 1, 0, "mishap 10 at 1 from 0 to 1;");
        due("P15 he would be there", x.mishap(0, 8), 0);
        due("P17 it would come", x.planned(0), 1000);
        Check.tell(x, 2, 0, "gust;");
        due("P17 held he is elsewhere then", x.planned(0), 0);
        due("P17 nothing is averted", x.planned(1), 0);
        due("P15 foreseen all the same", x.mishap(0, 8), 0);
        due("P12 none comes", x.seconds(9), 0);
        due("P15 no more foreseen", x.mishap(0, 8), NONE);
    }

    private static void thoughtLeavesNothing() {
        AngelTown x = new AngelTown();
        x.state(9);
        x.ward(0);
        x.ward(3);
        x.angel(0, 1);
        Check.tell(x, 0, 0, "east 9;");
        Check.tell(x, 2, 0, "go 3;push;push;");
        Check.tell(x, 1, 0, "mishap 10 at 3 from 4 to 9 chance 50;mishap 9 at 1 from 0 to 9 chance 50;");
        x.seconds(1);
        int state = x.look(9);
        x.planned(0);
        x.least(0);
        x.fewest(1);
        x.near(0, 1, 0);
        x.hopeless();
        x.shows();
        x.at(0, 5);
        x.at(0, 6);
        due("P17 no draws", x.look(9), state);
        due("P17 no lines", x.look(7), 0);
        due("P17 no second", x.look(2), 1);
        due("P17 nobody moved", x.of(0, 0), 1);
        due("P17 no angel either", x.at(0, 2), 2);
        due("P17 not over", x.mishap(0, 7), 0);
        due("P17 one can be undone", x.look(12), 1);
    }

    /** Guard 0, two angels at 0, people at 1, 3 and 5; the mishaps at 3 and 5 come together. */
    private static AngelTown two() {
        AngelTown x = new AngelTown();
        x.set(0, 0, 0);
        x.ward(1);
        x.ward(3);
        x.ward(5);
        x.angel(0, 1);
        x.angel(0, 1);
        Check.tell(x, 1, 0, "mishap 10 at 1 from 1 to 9;mishap 10 at 3 from 3 to 9;mishap 10 at 5 from 3 to 9;");
        return x;
    }

    private static void leastByTwo() {
        AngelTown x = two();
        due("P18 one is left", x.least(0), 1000);
        due("P18 which", x.least(1), 4);
        due("P18 angel 0", x.least(10), 1);
        due("P18 angel 1", x.least(11), 2);
        due("P18 no angel 2", x.least(12), NONE);
        due("P18 what 2", x.least(2), NONE);
        due("P18 what 9", x.least(9), NONE);
        due("P18 what -1", x.least(-1), NONE);
        due("P18 far", x.least(Integer.MIN_VALUE), NONE);
        due("P14 worth", x.at(0, 5), 1000);
        due("P14 worth", x.at(1, 5), 1000);
        due("P19 both", x.fewest(0), 2);
        due("P19 the set", x.fewest(1), 3);
        due("P20 hopeless", x.hopeless(), 4);
        due("P21 shows none", x.shows(), 0);
        Check.tell(x, 2, 0, "wait 9;push;");
        due("P18 plans are not asked", x.least(0), 1000);
        Check.tell(x, 3, 0, "fails;");
        due("P18 nor the law", x.least(0), 1000);
        x.set(2, 1, 9);
        due("P18 a slow one", x.least(0), 2000);
        due("P14 is worth nothing", x.at(1, 5), 0);
        due("P19 without him", x.fewest(1), 1);
    }

    private static void leastTakesTheFirstWay() {
        AngelTown x = new AngelTown();
        x.set(0, 0, 9);
        for (int i = 0; i < 4; i++) {
            x.ward(i);
        }
        x.angel(0, 1);
        x.angel(0, 1);
        x.angel(0, 1);
        Check.tell(x, 1, 0, "mishap 1 at 1 from 30 to 30;mishap 1 at 2 from 30 to 30;mishap 1 at 3 from 30 to 30;");
        due("P18 nothing is left", x.least(0), 0);
        due("P18 the first ones need do nothing", x.least(10), 0);
        due("P18 nor the second one", x.least(11), 0);
        due("P18 the last one sees to all", x.least(12), 7);
        due("P19 one is enough", x.fewest(0), 1);
        due("P19 the least one", x.fewest(1), 1);
        Check.tell(x, 1, 0, "mishap 20 at 0 from 0 to 0;mishap 10 at 0 from 0 to 0;mishap 20 at 0 from 0 to 0;mishap 20 at 0 from 0 to 0;");
        due("P18 three of four in one second", x.least(0), 1000);
        due("P18 the least harm", x.least(1), 2);
        due("P18 angel 0", x.least(10), 1);
        due("P18 angel 1", x.least(11), 4);
        due("P18 angel 2", x.least(12), 8);
        Check.tell(x, 1, 0, "mishap 10 at 0 from 0 to 0;mishap 20 at 0 from 0 to 0 chance 50;mishap 5 at 0 from 0 to 0;"
            + "mishap 10 at 0 from 0 to 0;mishap 40 at 0 from 0 to 0 chance 25;");
        due("P18 risks, not harms", x.least(0), 1500);
        due("P18 of equal risks the first ones are seen to", x.least(1), 20);
        due("P18 the least set comes first", x.least(10), 1);
        due("P18 then the next", x.least(11), 2);
        due("P18 then the next", x.least(12), 8);
    }

    private static void leastInAnotherOrder() {
        AngelTown x = new AngelTown();
        x.ward(2);
        x.ward(7);
        x.angel(0, 1);
        Check.tell(x, 1, 0, "mishap 10 at 2 from 9 to 9;mishap 20 at 7 from 8 to 8;");
        int[] left = {1000, 1000, 1000, 1000, 1000, 1000, 1000, 0, 0, 0};
        for (int guard = 0; guard < 10; guard++) {
            // he must do the one at 2 in second 2, to be at 7 in second 8
            x.set(0, 0, guard);
            due("P18 guard " + guard, x.least(0), left[guard]);
            due("P18 he sees to", x.least(10), left[guard] == 0 ? 3 : 2);
        }
        x.seconds(1);
        due("P18 now it is too late", x.least(0), 1000);
        due("P18 the lesser one is left", x.least(1), 1);
    }

    /** Of the sets that are worth as much the first one in number need not give the first way. */
    private static void leastOfSeveralSets() {
        AngelTown x = new AngelTown();
        x.set(0, 0, 0);
        x.ward(0);
        x.ward(5);
        x.ward(6);
        x.angel(5, 9);
        x.angel(3, 1);
        Check.tell(x, 1, 0, "mishap 1 at 0 from 3 to 3;mishap 1 at 5 from 2 to 2;mishap 1 at 6 from 4 to 4;");
        // angel 1 sees to 0, or to 1 and 2; with him at 0 angel 0 could see to 1, which is as much
        due("P18 one is left", x.least(0), 100);
        due("P18 which", x.least(1), 1);
        due("P18 angel 0 does nothing", x.least(10), 0);
        due("P18 angel 1", x.least(11), 6);
        due("P19 angel 1 alone", x.fewest(1), 2);
        due("P14 worth of angel 0", x.at(0, 5), 0);
        due("P14 worth of angel 1", x.at(1, 5), 100);
    }

    private static void guardFromNowOn() {
        AngelTown x = new AngelTown();
        x.set(0, 0, 9);
        x.ward(0);
        x.angel(0, 1);
        Check.tell(x, 1, 0, "mishap 1 at 0 from 1 to 1;mishap 1 at 0 from 1 to 1;mishap 1 at 0 from 1 to 1;");
        due("P18 two seconds are left, from now on", x.least(0), 100);
        due("P18 not ahead of now", x.least(1), 4);
        x.seconds(1);
        due("P18 one second is left", x.least(0), 200);
        x.seconds(1);
        due("P18 all is over", x.least(0), 0);
        due("P18 nothing is left", x.least(1), 0);
    }

    private static void fewestAngels() {
        AngelTown x = new AngelTown();
        x.set(0, 0, 0);
        x.ward(0);
        x.ward(7);
        x.angel(3, 9);
        x.angel(0, 1);
        x.angel(1, 1);
        x.angel(7, 1);
        Check.tell(x, 1, 0, "mishap 9 at 0 from 1 to 1;mishap 8 at 7 from 1 to 1;");
        due("P19 how many", x.fewest(0), 2);
        due("P19 1 and 3, not 2 and 3", x.fewest(1), 10);
        due("P19 what 2", x.fewest(2), NONE);
        due("P19 what -1", x.fewest(-1), NONE);
        due("P14 another could do what 1 does", x.at(1, 5), 0);
        due("P14 nobody could do what 3 does", x.at(3, 5), 800);
        due("P21 shows", x.shows(), 2);
        Check.tell(x, 1, 0, "");
        due("P19 none is needed", x.fewest(0), 0);
        due("P19 the empty set", x.fewest(1), 0);
    }

    private static void allTenAndAllSix() {
        AngelTown x = new AngelTown();
        x.set(0, 0, 0);
        x.ward(0);
        StringBuilder text = new StringBuilder();
        for (int i = 0; i < 10; i++) {
            text.append("mishap ").append(10 + i).append(" at 0 from 5 to 5;");
        }
        Check.tell(x, 1, 0, text.toString());
        due("P18 without angels", x.least(0), 14500);
        due("P18 all are left", x.least(1), 1023);
        due("P20 all are hopeless", x.hopeless(), 1023);
        for (int a = 0; a < 6; a++) {
            x.angel(0, 1);
        }
        due("P18 four are left", x.least(0), 1000 + 1100 + 1200 + 1300);
        due("P18 which", x.least(1), 15);
        for (int a = 0; a < 6; a++) {
            due("P18 angel " + a, x.least(10 + a), 16 << a);
            due("P14 worth of " + a, x.at(a, 5), 1400);
        }
        due("P19 six", x.fewest(0), 6);
        due("P19 all", x.fewest(1), 63);
        x.set(0, 0, 1);
        due("P18 by two seconds all", x.least(0), 0);
        due("P18 nothing for the first", x.least(10), 0);
        due("P18 the last one two, of the highest numbers", x.least(15), 768);
        due("P19 five", x.fewest(1), 31);
    }

    private static void hopelessAndShows() {
        AngelTown x = new AngelTown();
        x.ward(4);
        x.ward(36);
        x.angel(0, 2);
        x.angel(0, 3);
        Check.tell(x, 1, 0, "mishap 1 at 4 from 7 to 7;mishap 2 at 4 from 8 to 8;mishap 4 at 4 from 11 to 11;mishap 8 at 4 from 12 to 12;"
            + "mishap 16 at 9 from 0 to 99;mishap 32 at 36 from 0 to 99;");
        due("P20 too early for both, or far", x.hopeless(), 33);
        due("P21 for one alone", x.shows(), 6);
        due("P15 who", x.mishap(1, 10), 1);
        due("P15 both", x.mishap(3, 10), 3);
        due("P15 not foreseen", x.mishap(4, 10), 0);
        x.seconds(1);
        due("P20 a second later", x.hopeless(), 3);
        due("P21 a second later", x.shows(), 12);
        Check.tell(x, 1, 0, "mishap 1 at 63 from 0 to 99;");
        due("P20 nobody is there", x.hopeless(), 0);
        Check.tell(x, 1, 0, "mishap 1 at 36 from 0 to 99;");
        due("P20 at once", x.hopeless(), 1);
        Check.tell(x, 1, 0, "mishap 1 at 4 from 9 to 9;");
        due("P21 at once", x.shows(), 1);
    }

    private static void whereToWait() {
        AngelTown x = new AngelTown();
        x.ward(3);
        x.ward(4);
        x.ward(12);
        x.angel(0, 1);
        x.angel(0, 2);
        due("P14 no mishap", x.at(0, 6), 0);
        Check.tell(x, 1, 0, "mishap 30 at 4 from 4 to 4;mishap 20 at 3 from 9 to 9;mishap 20 at 3 from 9 to 9 unless cat chance 51;"
            + "mishap 31 at 12 from 5 to 5;mishap 99 at 63 from 0 to 99;");
        due("P14 31 is most", x.at(0, 6), 12);
        due("P14 for the slow one 3 alone", x.at(1, 6), 3);
        Check.tell(x, 1, 0, "mishap 30 at 4 from 4 to 4;mishap 10 at 3 from 9 to 9;mishap 20 at 3 from 9 to 9;");
        due("P14 of several the least", x.at(0, 6), 3);
        Check.tell(x, 1, 0, "mishap 30 at 4 from 3 to 3;");
        due("P14 none in time", x.at(0, 6), 0);
        Check.tell(x, 1, 0, "mishap 1 at 4 from 4 to 4 chance 1;");
        due("P14 the least risk", x.at(0, 6), 4);
    }

    private static void lot(String harms, long number, long by) {
        AngelTown x = new AngelTown();
        StringBuilder text = new StringBuilder();
        int set = 0;
        for (String harm : harms.split(" ")) {
            text.append("mishap ").append(harm).append(" at 0 from 0 to 0;");
            set = 2 * set + 1;
        }
        Check.tell(x, 1, 0, text.toString());
        due("P22 " + harms, x.lot(set, 0), number);
        due("P22 by which " + harms, x.lot(set, 1), by);
        due("P22 what 2", x.lot(set, 2), NONE);
        due("P22 what -1", x.lot(set, -1), NONE);
        due("P22 one that is not there", x.lot(set + 1, 0), NONE);
        due("P22 none", x.lot(0, 0), NONE);
        due("P22 below 0", x.lot(-1, 0), NONE);
        due("P22 least int", x.lot(Integer.MIN_VALUE, 0), NONE);
    }

    private static void lots() {
        lot("44", 0, 1);
        lot("5 7", 35, 12);
        lot("1 99", 99, 100);
        lot("30 20 60", 20, 1);
        lot("60 19 30", 20, 1);
        lot("21 60 30", 840, 41);
        lot("99 99 99 99 99 99", 165, 2);
        lot("1 1 1 1 1 1", 5, 6);
        lot("50 40 1 30 10 20", 1200, 47);
        lot("99 98 97 95 89 83", 3302134154550L, 42547888753L);
        lot("91 93 94 95 96 97", 195486272800L, 2487846583L);
        AngelTown x = new AngelTown();
        x.ward(0);
        Check.tell(x, 1, 0, "mishap 5 at 0 from 0 to 0;".repeat(7));
        due("P22 seven", x.lot(127, 0), NONE);
        due("P22 six of seven", x.lot(126, 0), 25);
        due("P22 by 6", x.lot(126, 1), 6);
        x.seconds(1);
        due("P22 over or not", x.lot(65, 0), 5);
        due("P22 by 2", x.lot(65, 1), 2);
    }

    private static void nearness() {
        AngelTown x = new AngelTown();
        x.ward(0);
        x.ward(19);
        x.ward(56);
        x.angel(19, 1);
        Check.tell(x, 0, 0, "east 7;");
        Check.tell(x, 0, 1, "north 2;south 9;");
        Check.tell(x, 2, 0, "push;");
        x.set(1, 0, 1);
        due("P23 he is a second too early", x.near(1, 0, 0), 1);
        due("P23 they meet in", x.near(1, 0, 1), 2);
        due("P23 to hold the other does not help", x.near(0, 1, 0), NONE);
        due("P23 nor has it a second", x.near(0, 1, 1), NONE);
        due("P23 what 2", x.near(1, 0, 2), NONE);
        due("P23 what -1", x.near(1, 0, -1), NONE);
        due("P23 one ward", x.near(1, 1, 0), NONE);
        due("P23 ward 3", x.near(0, 3, 0), NONE);
        due("P23 ward -1", x.near(-1, 0, 0), NONE);
        x.seconds(1);
        due("P23 held by the push", x.of(1, 0), 19);
        due("P23 no more is needed", x.near(1, 0, 0), 0);
        due("P23 they meet in", x.near(1, 0, 1), 2);
        Check.tell(x, 0, 0, "stand 60;stand 1;west 9;south 60;");
        Check.tell(x, 0, 2, "again 9(stand 60;)");
        due("P23 he comes by himself", x.near(0, 2, 0), 0);
        due("P23 behind second", x.near(0, 2, 1), 1 + 61 + 9 + 6);
        Check.tell(x, 0, 0, "");
        Check.tell(x, 0, 2, "stand 59;north 7;east 1;");
        due("P23 by himself too", x.near(2, 0, 1), 1 + 59 + 7);
        holdsUpToSixty(60, 60);
        holdsUpToSixty(61, NONE);
        x = new AngelTown();
        x.ward(5);
        x.ward(5);
        Check.tell(x, 0, 0, "east 1;");
        due("P23 together now, but not behind a second", x.near(0, 1, 0), 1);
        due("P23 if he is held", x.near(0, 1, 1), 0);
        due("P23 the other one can't help", x.near(1, 0, 0), NONE);
        for (int i = 0; i < 10; i++) {
            x.seconds(60);
        }
        Check.tell(x, 0, 0, "west 1;");
        due("P23 no second is left", x.near(0, 1, 0), NONE);
    }

    /** One leaves a place at once, the other one comes there for a single second so much later. */
    private static void holdsUpToSixty(int later, int want) {
        AngelTown x = new AngelTown();
        x.ward(0);
        x.ward(9);
        Check.tell(x, 0, 0, "east 1;again 2(east 60;)");
        Check.tell(x, 0, 1, "stand 60;" + (later > 60 ? "stand " + (later - 60) + ";" : "") + "north 1;south 1;west 60;");
        due("P23 held for " + later, x.near(0, 1, 0), want);
    }
}
