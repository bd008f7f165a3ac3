/** The edges of '1. THE TOWN' and of promises 1 to 9 and 26, sentence by sentence. */
public final class EdgeTownTest {
    private static final Check CHECK = new Check("EdgeTownTest");
    private static final int NONE = AngelTown.NONE;
    private static final int BLANKS = 0x20202020;
    private static final int[] FAR = {Integer.MIN_VALUE, Integer.MIN_VALUE + 1, -600, -64, -2, -1, 64, 600, 1 << 16, Integer.MAX_VALUE - 1,
        Integer.MAX_VALUE};

    public static void main(String[] args) {
        sidesAreTwoToEight();
        aTownThatCantBe();
        toldAnewAllIsAsAtFirst();
        toldAnewTheseStay();
        toldAnewWhoComesIsNew();
        placesAreThoseOfTheTown();
        guardIsNoneToNine();
        pausesAreNoneToNine();
        pacesAreOneToNine();
        setRefusedLeavesAll();
        eightWards();
        sixAngels();
        sixOthers();
        othersFromASecondToASecond();
        refusedOnesDoNotCome();
        stateIsAnyInt();
        drawsWrap();
        drawsHaveNoSign();
        fourHundredBytes();
        bytesOfEachNumber();
        endCutsTheTape();
        lookHasNoOtherWhat();
        lookTellsStateAsItIs();
        CHECK.finish();
    }

    private static void due(String what, long got, long want) {
        CHECK.due(what, got, want);
    }

    private static void due(String what, boolean got, boolean want) {
        CHECK.due(what, got, want);
    }

    private static AngelTown sized(int w, int h) {
        AngelTown x = new AngelTown();
        x.town(w, h);
        return x;
    }

    /** "W, H 2 .. 8, 8 each at first" */
    private static void sidesAreTwoToEight() {
        for (int w = -1; w <= 10; w++) {
            for (int h = -1; h <= 10; h++) {
                AngelTown x = new AngelTown();
                boolean can = w >= 2 && w <= 8 && h >= 2 && h <= 8;
                due("P3 town " + w + " " + h, x.town(w, h), can);
                due("P3 W of " + w + " " + h, x.look(0), can ? w : 8);
                due("P3 H of " + w + " " + h, x.look(1), can ? h : 8);
            }
        }
    }

    /** "false, and nothing is done, if they can't be" */
    private static void aTownThatCantBe() {
        for (int v : FAR) {
            due("P3 width " + v, new AngelTown().town(v, 4), false);
            due("P3 height " + v, new AngelTown().town(4, v), false);
        }
        Whole.refused(CHECK, "P3 a town that can't be", x -> {
            x.town(1, 4);
            x.town(4, 1);
            x.town(9, 4);
            x.town(4, 9);
            x.town(0, 0);
        });
    }

    /** "told anew: all is as at first but W, H, STATE, the TAPE, fault() and THE IMAGE" */
    private static void toldAnewAllIsAsAtFirst() {
        AngelTown x = Whole.lively();
        x.town(8, 8);
        // the rest of what stays is levelled here: an empty tape, no fault, an image of now
        x.end(0);
        x.text(1, 0);
        x.image(true);
        AngelTown y = new AngelTown();
        y.state(Whole.lively().look(9));
        y.image(true);
        Whole.same(CHECK, "P3 told anew", x, y);
    }

    private static void toldAnewTheseStay() {
        AngelTown x = Whole.lively();
        int state = x.look(9);
        due("P3 a state was drawn", state != 0, true);
        due("P3 told anew", x.town(2, 3), true);
        due("P3 W", x.look(0), 2);
        due("P3 H", x.look(1), 3);
        due("P3 STATE stays", x.look(9), state);
        due("P3 the fault stays", x.fault(0), 2);
        due("P3 its place stays", x.fault(1), 10);
        due("P3 the tape stays, of 20 bytes", x.feed(BLANKS, BLANKS, BLANKS, BLANKS, BLANKS), 40);
        due("P3 its bytes stay", x.text(3, 0), NONE);
        due("P3 they want an end", x.fault(1), 40);
        due("P3 seconds can't go back", x.undo(), false);
        due("P3 the image stays", x.image(false), true);
        due("P3 with its town", x.look(0), 5);
        due("P3 with its second", x.look(2), 1);
    }

    /** Who comes to a town told anew has nothing of who had his number before. */
    private static void toldAnewWhoComesIsNew() {
        AngelTown x = new AngelTown();
        x.set(1, 0, 9);
        x.ward(0);
        x.angel(0, 9);
        Check.tell(x, 0, 0, "east 3;south 3;");
        Check.tell(x, 2, 0, "push;push;go 3;cat;");
        x.seconds(4);
        due("P13 he stands STILL", x.of(0, 1), 14);
        due("P14 he is BUSY", x.at(0, 2), 25);
        x.town(8, 8);
        due("P5 a ward", x.ward(7), 0);
        due("P13 where he came", x.of(0, 0), 7);
        due("P13 not STILL", x.of(0, 1), 0);
        due("P13 no way", x.of(0, 2), 0);
        due("P6 an angel", x.angel(56, 2), 0);
        due("P14 where he came", x.at(0, 0), 56);
        due("P14 his pace", x.at(0, 1), 2);
        due("P14 not BUSY", x.at(0, 2), 0);
        due("P14 nothing DONE", x.at(0, 3), 0);
        due("P14 no orders", x.at(0, 4), 0);
        x.seconds(60);
        due("P13 there yet", x.of(0, 0), 7);
        due("P14 there yet", x.at(0, 0), 56);
        due("P26 no lines", x.look(7), 0);
    }

    private static int tellAt(int w, int h, int k, String before, int place, String behind) {
        AngelTown x = sized(w, h);
        x.angel(0, 1);
        int answer = Check.tell(x, k, 0, before + place + behind);
        due("P11 of place " + place, x.fault(0), answer == NONE ? 2 : 0);
        due("P11 its place", x.fault(1), answer == NONE ? before.length() : NONE);
        return answer;
    }

    /** "PLACES x 0 .. W - 1, y 0 .. H - 1, told by 8 y + x", wherever one is told */
    private static void placesAreThoseOfTheTown() {
        int[][] sizes = {{2, 2}, {2, 8}, {8, 2}, {3, 5}, {7, 7}, {8, 8}};
        for (int[] wh : sizes) {
            for (int p = -9; p <= 73; p++) {
                boolean can = p >= 0 && p < 64 && p % 8 < wh[0] && p / 8 < wh[1];
                String there = p + " in " + wh[0] + " by " + wh[1];
                due("P5 ward at " + there, sized(wh[0], wh[1]).ward(p), can ? 0 : NONE);
                due("P6 angel at " + there, sized(wh[0], wh[1]).angel(p, 1), can ? 0 : NONE);
                due("P7 other at " + there, sized(wh[0], wh[1]).other(p, 0, 0), can ? 0 : NONE);
                if (p >= 0) {
                    due("P10 go " + there, tellAt(wh[0], wh[1], 2, "go ", p, ";"), can ? 1 : NONE);
                    due("P10 at " + there, tellAt(wh[0], wh[1], 1, "mishap 1 at ", p, " from 0 to 0;"), can ? 1 : NONE);
                }
            }
        }
        for (int p : FAR) {
            due("P5 ward at " + p, new AngelTown().ward(p), NONE);
            due("P6 angel at " + p, new AngelTown().angel(p, 1), NONE);
            due("P7 other at " + p, new AngelTown().other(p, 0, 0), NONE);
        }
    }

    /** "GUARD 0 .. 9 (3 at first)", "which not asked" */
    private static void guardIsNoneToNine() {
        due("P4 at first", new AngelTown().look(13), 3);
        for (int v = -2; v <= 11; v++) {
            AngelTown x = new AngelTown();
            due("P4 guard " + v, x.set(0, 0, v), v >= 0 && v <= 9);
            due("P4 it is", x.look(13), v >= 0 && v <= 9 ? v : 3);
        }
        for (int v : FAR) {
            due("P4 guard " + v, new AngelTown().set(0, 0, v), false);
            due("P4 which is not asked, " + v, new AngelTown().set(0, v, 4), true);
        }
    }

    /** "KINDS of doings: 0 .. 4; PAUSE of each 0 .. 9 (0 at first)" */
    private static void pausesAreNoneToNine() {
        for (int k = -1; k <= 6; k++) {
            boolean kind = k >= 0 && k < 5;
            for (int v = -1; v <= 10; v++) {
                AngelTown x = new AngelTown();
                boolean can = kind && v >= 0 && v <= 9;
                due("P4 pause " + v + " of " + k, x.set(1, k, v), can);
                for (int other = 0; other < 5; other++) {
                    due("P26 pause of " + other, x.look(20 + other), can && other == k ? v : 0);
                }
            }
        }
        for (int v : FAR) {
            due("P4 kind " + v, new AngelTown().set(1, v, 1), false);
            due("P4 pause " + v, new AngelTown().set(1, 0, v), false);
        }
    }

    /** "a PACE 1 .. 9" */
    private static void pacesAreOneToNine() {
        for (int v = -1; v <= 11; v++) {
            AngelTown x = new AngelTown();
            boolean can = v >= 1 && v <= 9;
            due("P6 pace " + v, x.angel(5, v), can ? 0 : NONE);
            due("P6 how many", x.look(4), can ? 1 : 0);
            due("P6 his pace", x.at(0, 1), can ? v : NONE);
            AngelTown y = new AngelTown();
            y.angel(0, 4);
            y.angel(0, 5);
            due("P4 pace " + v, y.set(2, 1, v), can);
            due("P4 it is", y.at(1, 1), can ? v : 5);
            due("P4 the other's stays", y.at(0, 1), 4);
        }
        for (int v : FAR) {
            due("P6 pace " + v, new AngelTown().angel(0, v), NONE);
            due("P4 angel " + v, Whole.lively().set(2, v, 1), false);
            due("P4 pace " + v, Whole.lively().set(2, 0, v), false);
        }
        for (int a = 0; a < 6; a++) {
            due("P4 the last angel is 1, told " + a, Whole.lively().set(2, a, 1), a < 2);
        }
    }

    /** "false if one can't be, or another what" */
    private static void setRefusedLeavesAll() {
        for (int v : FAR) {
            due("P4 what " + v, Whole.lively().set(v, 0, 1), false);
        }
        due("P4 what 3", Whole.lively().set(3, 0, 1), false);
        Whole.refused(CHECK, "P4 set that can't be", x -> {
            x.set(0, 0, -1);
            x.set(0, 0, 10);
            x.set(1, 0, -1);
            x.set(1, 0, 10);
            x.set(1, -1, 1);
            x.set(1, 5, 1);
            x.set(2, 0, 0);
            x.set(2, 0, 10);
            x.set(2, -1, 1);
            x.set(2, 2, 1);
            x.set(-1, 0, 1);
            x.set(3, 0, 1);
        });
    }

    /** "WARDS 0 .. 7 as they come", "NONE if one can't be, or there are eight" */
    private static void eightWards() {
        AngelTown x = new AngelTown();
        for (int i = 0; i < 8; i++) {
            due("P5 ward " + i, x.ward(9 * i), i);
            due("P5 how many", x.look(3), i + 1);
            due("P5 no place, no ward", x.ward(64), NONE);
        }
        due("P5 the ninth", x.ward(0), NONE);
        due("P5 eight", x.look(3), 8);
        for (int i = 0; i < 8; i++) {
            due("P13 place of " + i, x.of(i, 0), 9 * i);
            due("P13 still of " + i, x.of(i, 1), 0);
            due("P13 way of " + i, x.of(i, 2), 0);
        }
        due("P13 the ninth", x.of(8, 0), NONE);
        for (int i = 0; i < 8; i++) {
            due("P10 way of " + i, Check.tell(x, 0, i, i % 2 == 0 ? "north 1;" : "west 1;south 1;"), 1 + i % 2);
        }
        x.seconds(1);
        int[] want = {0, 8, 10, 26, 28, 44, 46, 62};
        for (int i = 0; i < 8; i++) {
            due("P13 each goes his own way, " + i, x.of(i, 0), want[i]);
        }
    }

    /** "ANGELS 0 .. 5 as they come", "NONE if one can't be, or there are six" */
    private static void sixAngels() {
        AngelTown x = new AngelTown();
        for (int i = 0; i < 6; i++) {
            due("P6 angel " + i, x.angel(9 * i, 9 - i), i);
            due("P6 how many", x.look(4), i + 1);
            due("P6 no place, no angel", x.angel(-1, 1), NONE);
            due("P6 no pace, no angel", x.angel(0, 10), NONE);
        }
        due("P6 the seventh", x.angel(0, 1), NONE);
        due("P6 six", x.look(4), 6);
        for (int i = 0; i < 6; i++) {
            due("P14 place of " + i, x.at(i, 0), 9 * i);
            due("P14 pace of " + i, x.at(i, 1), 9 - i);
            due("P14 busy of " + i, x.at(i, 2), 0);
            due("P14 done of " + i, x.at(i, 3), 0);
            due("P14 orders of " + i, x.at(i, 4), 0);
        }
        due("P14 the seventh", x.at(6, 0), NONE);
        due("P18 the seventh", x.least(16), NONE);
        due("P18 the sixth", x.least(15), 0);
    }

    /** "OTHERS 0 .. 5 as they come", "NONE if one can't be, or there are six" */
    private static void sixOthers() {
        AngelTown x = new AngelTown();
        for (int i = 0; i < 6; i++) {
            due("P7 other " + i, x.other(i, i, i), i);
            due("P7 how many", x.look(5), i + 1);
            due("P7 no place, no other", x.other(64, 0, 0), NONE);
        }
        due("P7 the seventh", x.other(7, 6, 6), NONE);
        due("P7 six", x.look(5), 6);
        x.angel(7, 1);
        Check.tell(x, 2, 0, "wait 6;push;");
        x.seconds(7);
        due("P7 the seventh did not come", x.book(0, 4), 1);
    }

    /** "from a second to a second (0 .. 599, not below)" */
    private static void othersFromASecondToASecond() {
        int[] seconds = {-600, -1, 0, 1, 300, 598, 599, 600, 601, Integer.MIN_VALUE, Integer.MAX_VALUE};
        for (int from : seconds) {
            for (int to : seconds) {
                boolean can = from >= 0 && from <= 599 && to >= 0 && to <= 599 && to >= from;
                AngelTown x = new AngelTown();
                due("P7 from " + from + " to " + to, x.other(0, from, to), can ? 0 : NONE);
                due("P7 how many", x.look(5), can ? 1 : 0);
            }
        }
        AngelTown x = new AngelTown();
        x.other(0, 2, 3);
        x.angel(0, 1);
        Check.tell(x, 2, 0, "push;push;push;push;push;");
        x.seconds(5);
        int[] worked = {1, 1, 0, 0, 1};
        for (int i = 0; i < 5; i++) {
            due("P7 there from 2 to 3, in " + i, x.book(i, 4), worked[i]);
        }
    }

    private static void refusedOnesDoNotCome() {
        Whole.refused(CHECK, "P5 a ward that can't be", x -> {
            x.ward(-1);
            x.ward(5);
            x.ward(32);
            x.ward(64);
        });
        Whole.refused(CHECK, "P6 an angel that can't be", x -> {
            x.angel(-1, 1);
            x.angel(5, 1);
            x.angel(32, 1);
            x.angel(0, 0);
            x.angel(0, 10);
        });
        Whole.refused(CHECK, "P7 an other that can't be", x -> {
            x.other(-1, 0, 0);
            x.other(5, 0, 0);
            x.other(32, 0, 0);
            x.other(0, -1, 0);
            x.other(0, 0, 600);
            x.other(0, 2, 1);
        });
        AngelTown x = new AngelTown();
        for (int i = 0; i < 8; i++) {
            x.ward(0);
            x.angel(0, 1);
            x.other(0, 0, 0);
        }
        x.seconds(2);
        x.ward(0);
        x.angel(0, 1);
        x.other(0, 0, 0);
        due("P24 one too many forgets no second", x.look(12), 2);
    }

    /** "STATE is told: what it was." "(an int, 0 at first)" */
    private static void stateIsAnyInt() {
        AngelTown x = new AngelTown();
        int was = 0;
        int[] told = {Integer.MAX_VALUE, Integer.MIN_VALUE, -1, 0, 1, 1 << 24};
        for (int v : told) {
            due("P2 what it was ahead of " + v, x.state(v), was);
            due("P26 it is", x.look(9), v);
            was = v;
        }
    }

    /** What becomes of a mishap of such a chance when it is drawn from a state. */
    private static int drawnFrom(int state, int chance) {
        AngelTown x = new AngelTown();
        x.ward(0);
        Check.tell(x, 1, 0, "mishap 1 at 0 from 0 to 0 chance " + chance + ";");
        x.state(state);
        x.seconds(1);
        return x.mishap(0, 7);
    }

    /** "it becomes 1664525 times itself + 1013904223 (ints, which wrap)" */
    private static void drawsWrap() {
        int[] from = {0, 1, -1, 3, 1013904223, Integer.MAX_VALUE, Integer.MIN_VALUE};
        long[] becomes = {1013904223L, 1015568748L, 1012239698L, 1018897798L, 1196435762L, -1135243950L, -1133579425L};
        for (int i = 0; i < from.length; i++) {
            AngelTown x = new AngelTown();
            x.ward(0);
            Check.tell(x, 1, 0, "mishap 1 at 0 from 0 to 0 chance 50;");
            x.state(from[i]);
            x.seconds(1);
            due("P26 STATE behind a draw from " + from[i], x.look(9), becomes[i]);
        }
    }

    /** "its highest 24 bits (without sign) modulo m" */
    private static void drawsHaveNoSign() {
        int[] states = {Integer.MAX_VALUE, Integer.MIN_VALUE};
        for (int state : states) {
            int next = 1664525 * state + 1013904223;
            int draw = (int) ((next & 0xffffffffL) / 256 % 100);
            due("P2 below 0", next < 0, true);
            due("P2 as high as the draw: PASSED", drawnFrom(state, draw), 3);
            due("P2 above the draw: HAPPENED", drawnFrom(state, draw + 1), 2);
        }
        // 24 bits of 1013904223 are 3960563: 63
        due("P2 63 of 0: PASSED", drawnFrom(0, 63), 3);
        due("P2 63 of 0: HAPPENED", drawnFrom(0, 64), 2);
    }

    /** "NONE, and nothing comes, if there would be more than 400" */
    private static void fourHundredBytes() {
        for (int n = 360; n <= 400; n++) {
            AngelTown x = new AngelTown();
            for (int i = 0; i < 20; i++) {
                due("P8 fed", x.feed(BLANKS, BLANKS, BLANKS, BLANKS, BLANKS), 20 * i + 20);
            }
            x.end(n);
            due("P8 behind " + n, x.feed(BLANKS, BLANKS, BLANKS, BLANKS, BLANKS), n <= 380 ? n + 20 : NONE);
            int has = n <= 380 ? n + 20 : n;
            due("P9 one more than it has", x.end(has + 1), false);
            due("P9 as many as it has", x.end(has), true);
        }
        AngelTown x = new AngelTown();
        x.ward(0);
        Check.feed(x, " ".repeat(392) + "east 60;");
        due("P8 full", x.feed(0, 0, 0, 0, 0), NONE);
        due("P10 all 400 are read", x.text(0, 0), 60);
        due("P8 from none again", x.feed(0, 0, 0, 0, 0), 20);
        Whole.refused(CHECK, "P8 more than 400", y -> {
            for (int i = 0; i < 19; i++) {
                y.feed(BLANKS, BLANKS, BLANKS, BLANKS, BLANKS);
            }
            y.feed(0, 0, 0, 0, 0);
            y.end(20);
        });
    }

    /** "of each number the highest first" */
    private static void bytesOfEachNumber() {
        for (int wrong = 0; wrong < 20; wrong++) {
            int[] v = {BLANKS, BLANKS, BLANKS, BLANKS, BLANKS};
            int shift = 24 - 8 * (wrong % 4);
            v[wrong / 4] = v[wrong / 4] & ~(255 << shift) | 200 << shift;
            AngelTown x = new AngelTown();
            x.feed(BLANKS, BLANKS, BLANKS, BLANKS, BLANKS);
            x.feed(v[0], v[1], v[2], v[3], v[4]);
            due("P10 a byte of 200", x.text(3, 0), NONE);
            due("P11 can't stand", x.fault(0), 1);
            due("P8 where it stands", x.fault(1), 20 + wrong);
        }
    }

    /** "The TAPE has its first n bytes alone: true; false, changing nothing, if it has not so many, or n is below 0." */
    private static void endCutsTheTape() {
        AngelTown x = new AngelTown();
        due("P9 0 of none", x.end(0), true);
        due("P9 1 of none", x.end(1), false);
        x.ward(0);
        for (int n = 0; n <= 20; n++) {
            Check.feed(x, "east 1;east 1;east 1");
            due("P9 21", x.end(21), false);
            due("P9 " + n, x.end(n), true);
            due("P9 one more", x.end(n + 1), false);
            due("P10 of " + n, x.text(0, 0), n % 7 == 0 ? n / 7 : NONE);
            due("P10 where it ends", x.fault(1), n % 7 == 0 ? NONE : n % 7 < 4 ? n / 7 * 7 : n);
        }
        for (int v : FAR) {
            due("P9 " + v, Whole.lively().end(v), false);
        }
        Whole.refused(CHECK, "P9 an end that can't be", y -> {
            y.end(-1);
            y.end(21);
            y.end(Integer.MIN_VALUE);
            y.end(Integer.MAX_VALUE);
            y.end(20);
        });
    }

    /** "NONE for another what" */
    private static void lookHasNoOtherWhat() {
        AngelTown x = Whole.lively();
        for (int what = -30; what <= 60; what++) {
            boolean known = what >= 0 && what <= 13 || what >= 20 && what <= 24;
            due("P26 what " + what, x.look(what) == NONE, !known);
        }
        for (int v : FAR) {
            due("P26 what " + v, x.look(v), NONE);
        }
    }

    /** "(STATE as it is.)": it may be as NONE is. */
    private static void lookTellsStateAsItIs() {
        AngelTown x = new AngelTown();
        x.state(-1);
        due("P26 STATE -1", x.look(9), -1);
        x.state(-2);
        due("P26 STATE -2", x.look(9), -2);
    }
}
