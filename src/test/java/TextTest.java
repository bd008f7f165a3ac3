/** Promises 10 and 11: the four texts and their faults. */
public final class TextTest {
    private static final Check CHECK = new Check("TextTest");
    private static final int NONE = AngelTown.NONE;

    public static void main(String[] args) {
        answersAreHowMany();
        noSuchOne();
        aFaultAltersNothing();
        faultsOfWays();
        faultsOfMishaps();
        faultsOfPlans();
        faultsOfLaws();
        tokens();
        lawsSpeak();
        CHECK.finish();
    }

    private static void due(String what, long got, long want) {
        CHECK.due(what, got, want);
    }

    private static AngelTown small() {
        return Check.small();
    }

    private static void good(int k, String text, int want) {
        CHECK.good(k, text, want);
    }

    private static void bad(int k, String text, int fault, int place) {
        CHECK.bad(k, text, fault, place);
    }

    private static void answersAreHowMany() {
        good(0, "", 0);
        good(0, "stand 60;north 1;east 2;south 3;west 4;", 70);
        good(0, "again 9()", 0);
        good(0, "again 2(east 1;again 3(west 2;))south 1;", 15);
        good(0, "again 5(again 2(east 60;))", 600);
        good(1, "mishap 99 at 0 from 0 to 0;mishap 1 at 19 from 599 to 599 ward 1 unless cat chance 1;", 2);
        good(1, " mishap 5 at 3 from 1 to 2 chance 100 ; ", 1);
        good(2, "go 19;push;gust;glove;door;cat;wait 60;wait 1;go 0;", 9);
        good(3, "works;fails;works when 1=1;", 3);
        good(3, "fails when not(kind<second+x*y/3-wards or spoilt=1)and angel>done and not not pace=0009;", 1);
    }

    private static void noSuchOne() {
        AngelTown x = small();
        Check.tell(x, 0, 0, "up");
        due("P11 a fault", x.fault(0), 1);
        due("P10 ward 2", Check.tell(x, 0, 2, "up"), NONE);
        due("P11 no fault of no such one", x.fault(0), 0);
        due("P11 nor a place", x.fault(1), NONE);
        due("P10 ward -1", Check.tell(x, 0, -1, "up"), NONE);
        due("P10 angel 1", Check.tell(x, 2, 1, "up"), NONE);
        due("P10 angel -1", Check.tell(x, 2, -1, "up"), NONE);
        due("P10 text 4", Check.tell(x, 4, 0, "up"), NONE);
        due("P10 text -1", Check.tell(x, -1, 0, "up"), NONE);
        due("P11 no fault", x.fault(0), 0);
        due("P10 who is not asked of mishaps", Check.tell(x, 1, -9, "mishap 1 at 0 from 0 to 0;"), 1);
        due("P10 who is not asked of the law", Check.tell(x, 3, 99, "works;"), 1);
        due("P10 mishaps anew", Check.tell(x, 1, 0, ""), 0);
        due("P10 none", x.look(6), 0);
        due("P10 the law anew", Check.tell(x, 3, 0, ""), 0);
        due("P10 no law", x.look(8), 0);
        x = new AngelTown();
        x.angel(0, 1);
        due("P10 an angel is no ward", Check.tell(x, 0, 0, "east 1;"), NONE);
        due("P11 nor is it a fault", x.fault(0), 0);
        x = new AngelTown();
        x.ward(0);
        due("P10 a ward is no angel", Check.tell(x, 2, 0, "push;"), NONE);
        due("P11 nor is it a fault", x.fault(0), 0);
    }

    private static void aFaultAltersNothing() {
        AngelTown x = small();
        x.set(1, 0, 5);
        Check.tell(x, 0, 0, "east 3;");
        Check.tell(x, 0, 1, "stand 9;");
        Check.tell(x, 2, 0, "push;go 2;cat;");
        Check.tell(x, 1, 0, "mishap 7 at 9 from 3 to 4 ward 0 unless door chance 50;");
        Check.tell(x, 3, 0, "fails when done>5;works;");
        x.seconds(2);
        Check.tell(x, 0, 0, "south 2;east 61;");
        Check.tell(x, 2, 0, "cat;go 4;");
        Check.tell(x, 1, 0, "mishap 8 at 0 from 0 to 0;mishap 100");
        Check.tell(x, 3, 0, "works;works when x;");
        due("P10 the way stays", x.of(0, 2), 3);
        due("P10 he still stands", x.of(0, 1), 3);
        due("P10 the plan stays", x.at(0, 4), 1);
        due("P10 he is busy yet", x.at(0, 2), 1);
        due("P10 one mishap yet", x.look(6), 1);
        due("P10 the same", x.mishap(0, 0), 7);
        due("P10 the same ward", x.mishap(0, 4), 0);
        due("P10 the same kind", x.mishap(0, 5), 3);
        due("P10 the same chance", x.mishap(0, 6), 50);
        due("P10 the law stays", x.look(8), 2);
        due("P10 a fault forgets nothing", x.look(12), 2);
        due("P10 a way forgets", Check.tell(x, 0, 0, "south 2;"), 2);
        due("P10 now", x.look(12), 0);
        due("P10 told anew he does not stand still", x.of(0, 1), 0);
        due("P10 told anew he is not busy", Check.tell(x, 2, 0, "door;") + x.at(0, 2), 1);
        due("P10 and is where he set out", x.at(0, 0), 0);
        x.seconds(1);
        due("P10 the new plan is begun at once", x.book(1, 2), 3);
        due("P10 the new way too", x.of(0, 0), 8);
        due("P10 done is as it was", x.at(0, 3), 2);
    }

    private static void faultsOfWays() {
        bad(0, "up 1;", 1, 0);
        bad(0, "east;", 1, 4);
        bad(0, "east 1", 1, 6);
        bad(0, "east 1  ", 1, 8);
        bad(0, "east 1;;", 1, 7);
        bad(0, "east 1;)", 1, 7);
        bad(0, "east 0;", 2, 5);
        bad(0, "east 61;", 2, 5);
        bad(0, "east 9999;", 2, 5);
        bad(0, "east 10000;", 1, 5);
        bad(0, "again 0()", 2, 6);
        bad(0, "again 10()", 2, 6);
        bad(0, "again 2 east 1;", 1, 8);
        bad(0, "again 2(east 1;", 1, 15);
        bad(0, "again 2(east 1;));", 1, 16);
        bad(0, "again 1(again 1(again 1(again 1(again 1(", 3, 32);
        good(0, "again 1(again 1(again 1(again 1(east 1;))))again 1()", 1);
        bad(0, "again 5(again 2(east 60;))west 1; ", 4, 34);
        bad(0, "again 9(again 9(again 9(again 9(west 60;))))", 4, 44);
        bad(0, "again 9(again 9(again 9(again 9(west 60;)))", 1, 43);
        bad(0, "go 1;", 1, 0);
        bad(0, "East 1;", 1, 0);
        for (char c : "AXZaxz".toCharArray()) {
            bad(0, "east" + c + " 1;", 1, 0);
        }
        for (char c : "@[`{_.,:'!/".toCharArray()) {
            bad(0, "east" + c + " 1;", 1, 4);
        }
        bad(0, "easteast 1;", 1, 0);
        bad(0, "\teast 1;", 1, 0);
        bad(0, "east 1;" + (char) 233, 1, 7);
        bad(0, "east " + (char) 0 + "1;", 1, 5);
        bad(0, "east -1;", 1, 5);
    }

    private static void faultsOfMishaps() {
        bad(1, "mishap 0 at 0 from 0 to 0;", 2, 7);
        bad(1, "mishap 100 at 0 from 0 to 0;", 2, 7);
        bad(1, "mishap at 0 from 0 to 0;", 1, 7);
        bad(1, "mishap 1 at 4 from 0 to 0;", 2, 12);
        bad(1, "mishap 1 at 24 from 0 to 0;", 2, 12);
        bad(1, "mishap 1 at 99 from 0 to 0;", 2, 12);
        bad(1, "mishap 1 at from 0 to 0;", 1, 12);
        bad(1, "mishap 1 at 0 from 600 to 600;", 2, 19);
        bad(1, "mishap 1 at 0 from 0 to 600;", 2, 24);
        bad(1, "mishap 1 at 0 from 9 to 8;", 2, 24);
        bad(1, "mishap 1 at 0 to 9 from 8;", 1, 14);
        bad(1, "mishap 1 at 0 from 0 to 0 ward 2;", 2, 31);
        bad(1, "mishap 1 at 0 from 0 to 0 ward cat;", 1, 31);
        bad(1, "mishap 1 at 0 from 0 to 0 unless 1;", 1, 33);
        bad(1, "mishap 1 at 0 from 0 to 0 unless go;", 1, 33);
        bad(1, "mishap 1 at 0 from 0 to 0 chance 0;", 2, 33);
        bad(1, "mishap 1 at 0 from 0 to 0 chance 101;", 2, 33);
        bad(1, "mishap 1 at 0 from 0 to 0 unless cat ward 0;", 1, 37);
        bad(1, "mishap 1 at 0 from 0 to 0", 1, 25);
        bad(1, "mishap 1 at 0 from 0 to 0; east 1;", 1, 27);
        String ten = "mishap 1 at 0 from 0 to 0;".repeat(10);
        good(1, ten, 10);
        bad(1, ten + " mishap 0", 3, 261);
        bad(1, ten + " mishaps", 1, 261);
        AngelTown x = new AngelTown();
        due("P10 no ward at all", Check.tell(x, 1, 0, "mishap 1 at 0 from 0 to 0 ward 0;"), NONE);
        due("P11 2", x.fault(0), 2);
    }

    private static void faultsOfPlans() {
        bad(2, "go 4;", 2, 3);
        bad(2, "go;", 1, 2);
        bad(2, "go 24;", 2, 3);
        bad(2, "wait 0;", 2, 5);
        bad(2, "wait 61;", 2, 5);
        bad(2, "push 1;", 1, 5);
        bad(2, "push", 1, 4);
        bad(2, "east 1;", 1, 0);
        good(2, "cat;".repeat(40), 40);
        bad(2, "cat;".repeat(40) + "go 99;", 3, 160);
        bad(2, "cat;".repeat(40) + "x", 1, 160);
    }

    private static void faultsOfLaws() {
        bad(3, "works when;", 1, 10);
        bad(3, "works when 1;", 1, 12);
        bad(3, "works when 1<2<3;", 1, 14);
        bad(3, "works when 1=2", 1, 14);
        bad(3, "works when (1=2;", 1, 15);
        bad(3, "works when (1)=2;", 1, 13);
        bad(3, "works when -1=2;", 1, 11);
        bad(3, "works when x/0=2;", 2, 13);
        bad(3, "works when x/0000=2;", 2, 13);
        bad(3, "works when x/y=2;", 1, 13);
        bad(3, "works when x/2/0=2;", 2, 15);
        bad(3, "works when x*=2;", 1, 13);
        bad(3, "works when x+=2;", 1, 13);
        bad(3, "works when ward=2;", 1, 11);
        bad(3, "works when 12345=2;", 1, 11);
        bad(3, "works when 1=1 or;", 1, 17);
        bad(3, "works when 1=1 not 1=1;", 1, 15);
        bad(3, "works 1=1;", 1, 6);
        bad(3, "when 1=1;", 1, 0);
        good(3, "works;".repeat(16), 16);
        bad(3, "works;".repeat(16) + "fails when", 3, 96);
        good(3, "works when ((((((((1=1))))))));", 1);
        bad(3, "works when (((((((((1=1)))))))));", 3, 19);
        good(3, "works when not not not not not not not not 1=1;", 1);
        bad(3, "works when not not not not not not not not not 1=1;", 3, 43);
        bad(3, "works when not(not(not(not((", 3, 27);
        bad(3, "works when not(not(not(not(not", 3, 27);
        good(3, "works when not 1=1 and not 1=1 and not 1=1 and not 1=1 and not 1=1 and not 1=1 and not 1=1 and not 1=1 and not 1=1;", 1);
        good(3, "works when (1=1)and(1=1)and(1=1)and(1=1)and(1=1)and(1=1)and(1=1)and(1=1)and(1=1)and(1=1);", 1);
    }

    private static void tokens() {
        good(0, "east1;\n\nwest 0002;south3;", 6);
        good(3, "works\nwhen x<y and(x=1)or not y>2;", 1);
        bad(3, "workswhen x<y;", 1, 0);
        bad(3, "works when xy<y;", 1, 11);
        bad(3, "works when x<=y;", 1, 13);
        bad(3, "works when x<y,", 1, 14);
    }

    /** Of a doing with these values whether it works by a condition. */
    private static int speaks(String condition) {
        AngelTown x = new AngelTown();
        x.ward(26);
        x.ward(26);
        x.angel(26, 7);
        x.angel(26, 5);
        x.other(26, 3, 3);
        Check.tell(x, 2, 1, "cat;wait 1;door;glove;");
        Check.tell(x, 3, 0, "works when " + condition + ";fails;");
        x.seconds(4);
        return x.book(2, 4);
    }

    private static void lawsSpeak() {
        String[] so = {"kind=2", "second=3", "x=2", "y=3", "wards=2", "spoilt=1", "angel=1", "done=2", "pace=5",
            "1+2*3=7", "7-2-1=4", "2*3-4*1=2", "7/2*2=6", "0-7/2=0-3", "1-8/3*3=0-5", "second*second/2=4", "9999*9999*9999<0", "9999*9999*9999/9999=0-9999*10-2755",
            "1=2 or 1=1 and 2=2", "1=1 or 1=1 and 1=2", "not 1=2 and 1=1", "not(1=1 and 1=2)", "(1=2 or 1=1)and 2=2",
            "1<2", "2>1", "not 2<2", "not 2>2", "not not 1=1", "0-1<0", "x+y*2-pace=3"};
        String[] not = {"kind=1", "second=2", "x=3", "y=2", "wards=1", "spoilt=0", "angel=0", "done=3", "pace=7",
            "(1=1 or 1=1)and 1=2", "1=2 and 1=1 or 1=2", "not 1=1 or 1=2", "not not 1=2", "2<2", "2>2", "not(1=2 or 1=1)"};
        for (String s : so) {
            due("P10 so: " + s, speaks(s), 1);
        }
        for (String s : not) {
            due("P10 not so: " + s, speaks(s), 0);
        }
        AngelTown x = new AngelTown();
        x.angel(0, 1);
        Check.tell(x, 2, 0, "push;gust;glove;");
        Check.tell(x, 3, 0, "fails when kind=0;works when kind=1;fails when kind<2;");
        x.other(0, 1, 2);
        x.seconds(3);
        due("P10 the first line that is so", x.book(0, 4), 0);
        due("P10 the second one", x.book(1, 4), 1);
        due("P10 none: it is spoilt", x.book(2, 4), 0);
        x = new AngelTown();
        x.angel(0, 1);
        Check.tell(x, 2, 0, "push;gust;");
        Check.tell(x, 3, 0, "fails when 1=2;".repeat(15) + "fails when kind=1;");
        x.seconds(2);
        due("P10 none of sixteen", x.book(0, 4), 1);
        due("P10 the sixteenth", x.book(1, 4), 0);
    }
}
