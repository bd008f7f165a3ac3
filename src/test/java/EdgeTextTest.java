/** The edges of '2. TEXTS' and of promises 10 and 11, sentence by sentence. */
public final class EdgeTextTest {
    private static final Check CHECK = new Check("EdgeTextTest");
    private static final int NONE = AngelTown.NONE;
    private static final String[] STEPS = {"stand", "north", "east", "south", "west"};
    private static final String[] KINDS = {"push", "gust", "glove", "door", "cat"};
    private static final String[] VALUES = {"kind", "second", "x", "y", "wards", "spoilt", "angel", "done", "pace"};

    public static void main(String[] args) {
        stepsAreOneToSixty();
        againIsOneToNine();
        waysOfSixHundredSeconds();
        fourAgainsAreOpen();
        harmsAreOneToNinetyNine();
        secondsOfMishaps();
        wardsOfMishaps();
        kindsOfMishaps();
        chancesOfMishaps();
        partsOfMishapsInOrder();
        tenMishaps();
        waitsAreOneToSixty();
        ordersOfPlans();
        fortyOrders();
        sixteenLines();
        eightAreOpen();
        whatIsClosedIsNotOpen();
        numbersHaveFourDigits();
        partsByNone();
        lettersStandTogether();
        keywordsAreThoseOfTheText();
        blanks();
        signsAndOtherBytes();
        everyTokenThatCantStand();
        theEndIsTheTextsLength();
        theFirstFaultByItsPlace();
        atOnePlaceTheLeast();
        intsWrap();
        partsGoTowardsNone();
        howTightlyTheLawBinds();
        deepConditions();
        lawsAsLongAsTheTape();
        emptyTexts();
        noSuchOne();
        faultTellsOfTheLatest();
        faultyTextsLeaveAll();
        mishapsToldAnew();
        aWayToldAnew();
        aPlanToldAnew();
        CHECK.finish();
    }

    private static void due(String what, long got, long want) {
        CHECK.due(what, got, want);
    }

    private static void due(String what, boolean got, boolean want) {
        CHECK.due(what, got, want);
    }

    private static AngelTown small() {
        return Check.small();
    }

    private static void good(int k, String text, int want) {
        CHECK.good(k, text, want);
    }

    private static void bad(int k, String text, int fault, int place) {
        CHECK.bad(k, text, fault, place);
    }

    /** A number between two parts of a text: from a least one to a greatest one it is good. */
    private static void bounds(int k, String before, int least, int most, String behind, boolean counts) {
        int[] tried = {0, 1, least - 1, least, least + 1, most - 1, most, most + 1, 1000, 9999};
        for (int n : tried) {
            if (n < 0) {
                continue;
            }
            if (n >= least && n <= most) {
                good(k, before + n + behind, counts ? n : 1);
                good(k, before + "0" + n + behind, counts ? n : 1);
            } else {
                bad(k, before + n + behind, 2, before.length());
            }
        }
        bad(k, before + "10000" + behind, 1, before.length());
        bad(k, before + "00001" + behind, 1, before.length());
        bad(k, before + behind, 1, before.length() + (behind.startsWith(" ") ? 1 : 0));
        bad(k, before + "-1" + behind, 1, before.length());
    }

    /** "stand N ; | north N ; | east N ; | south N ; | west N ;", "(N 1 .. 60; ..)" */
    private static void stepsAreOneToSixty() {
        for (String step : STEPS) {
            bounds(0, step + " ", 1, 60, ";", true);
        }
    }

    /** "again N ( {STEP} )", "(.. again 1 .. 9.)" */
    private static void againIsOneToNine() {
        bounds(0, "again ", 1, 9, "(east 1;)", true);
        for (int n = 1; n <= 9; n++) {
            good(0, "again " + n + "()", 0);
            good(0, "again " + n + "(stand 7;again " + n + "(west 1;)north 2;)", n * (9 + n));
        }
        bad(0, "again 2 east 1;)", 1, 8);
        bad(0, "again 2();", 1, 9);
        bad(0, "again 2(east 1)", 1, 14);
    }

    /** "4 (at the end) a WAY of more than 600 seconds" */
    private static void waysOfSixHundredSeconds() {
        String ten = "east 60;".repeat(10);
        good(0, ten, 600);
        bad(0, ten + "east 1;", 4, 87);
        bad(0, ten + "east 1;   \n", 4, 91);
        good(0, "east 60;".repeat(9) + "east 59;east 1;", 600);
        bad(0, "east 60;".repeat(9) + "east 59;east 2;", 4, 87);
        good(0, "again 8(again 3(again 5(stand 5;)))", 600);
        bad(0, "again 8(again 3(again 5(stand 5;)))stand 1;", 4, 43);
        bad(0, "again 9(again 9(again 9(again 9(stand 60;))))", 4, 45);
        String most = "again 9(again 9(again 9(again 9(" + "east 60;".repeat(45) + "))))";
        due("as long as a text can be", most.length() <= 400, true);
        bad(0, most, 4, most.length());
        AngelTown x = new AngelTown();
        x.ward(0);
        Check.tell(x, 0, 0, "again 5(again 2(again 5(east 6;west 6;)))");
        due("P13 all 600 seconds are left", x.of(0, 2), 600);
        for (int i = 0; i < 10; i++) {
            x.seconds(59);
            due("P13 where he is behind 12 n - 1 seconds", x.of(0, 0), 1);
            x.seconds(1);
            due("P13 back", x.of(0, 0), 0);
        }
        due("P13 none is left", x.of(0, 2), 0);
    }

    /** "3 .. (at again) the 5th that is open" */
    private static void fourAgainsAreOpen() {
        good(0, "again 1(again 1(again 1(again 1(east 1;))))", 1);
        bad(0, "again 1(again 1(again 1(again 1(again 1(east 1;)))))", 3, 32);
        bad(0, "again 1(again 1(again 1(again 1(east 1; again", 3, 40);
        good(0, "again 1(again 1(again 1(again 1()again 1()))again 1(again 1(again 1())))", 0);
        good(0, "again 1()again 1()again 1()again 1()again 1()again 1()", 0);
    }

    /** "HARM 1 .. 99" */
    private static void harmsAreOneToNinetyNine() {
        bounds(1, "mishap ", 1, 99, " at 0 from 0 to 0;", false);
    }

    /** "(S 0 .. 599, the second one not below; ..)" */
    private static void secondsOfMishaps() {
        bounds(1, "mishap 1 at 0 from ", 0, 599, " to 599;", false);
        bounds(1, "mishap 1 at 0 from 0 to ", 0, 599, ";", false);
        bounds(1, "mishap 1 at 0 from 300 to ", 300, 599, ";", false);
        bounds(1, "mishap 1 at 0 from 599 to ", 599, 599, ";", false);
        bad(1, "mishap 1 at 0 from 600 to 0;", 2, 19);
    }

    /** "[ward N]", "a WARD that there is not" */
    private static void wardsOfMishaps() {
        bounds(1, "mishap 1 at 0 from 0 to 0 ward ", 0, 1, ";", false);
        AngelTown x = new AngelTown();
        for (int wards = 0; wards <= 8; wards++) {
            for (int n = 0; n <= 9; n++) {
                int want = n < wards ? 1 : NONE;
                due("P10 ward " + n + " of " + wards, Check.tell(x, 1, 0, "mishap 1 at 0 from 0 to 0 ward " + n + ";"), want);
                due("P11 of it", x.fault(0), n < wards ? 0 : 2);
                due("P11 place of it", x.fault(1), n < wards ? NONE : 31);
                due("P15 its ward", n < wards ? x.mishap(0, 4) : n, n);
            }
            x.ward(0);
        }
        due("P10 without a ward", Check.tell(x, 1, 0, "mishap 1 at 0 from 0 to 0;"), 1);
        due("P15 anybody", x.mishap(0, 4), NONE);
    }

    /** "[unless KIND]", "KIND = push | gust | glove | door | cat" */
    private static void kindsOfMishaps() {
        for (int k = 0; k < 5; k++) {
            AngelTown x = new AngelTown();
            due("P10 unless", Check.tell(x, 1, 0, "mishap 1 at 0 from 0 to 0 unless " + KINDS[k] + ";"), 1);
            due("P15 its kind", x.mishap(0, 5), k);
        }
        AngelTown x = new AngelTown();
        Check.tell(x, 1, 0, "mishap 1 at 0 from 0 to 0;");
        due("P15 any kind", x.mishap(0, 5), NONE);
        String[] no = {"go", "wait", "pus", "pushs", "Push", "kind", "0", ";", "unless", "mishap"};
        for (String word : no) {
            bad(1, "mishap 1 at 0 from 0 to 0 unless " + word + ";", 1, 33);
        }
    }

    /** "CHANCE 1 .. 100", "without chance 100" */
    private static void chancesOfMishaps() {
        bounds(1, "mishap 1 at 0 from 0 to 0 chance ", 1, 100, ";", false);
        int[] chances = {1, 2, 99, 100};
        for (int chance : chances) {
            AngelTown x = new AngelTown();
            Check.tell(x, 1, 0, "mishap 1 at 0 from 0 to 0 chance " + chance + ";");
            due("P15 its chance", x.mishap(0, 6), chance);
        }
        AngelTown x = new AngelTown();
        Check.tell(x, 1, 0, "mishap 1 at 0 from 0 to 0;");
        due("P15 without chance", x.mishap(0, 6), 100);
    }

    /** "[ward N] [unless KIND] [chance N]": each or none, in this order alone, once alone */
    private static void partsOfMishapsInOrder() {
        String head = "mishap 1 at 0 from 0 to 0";
        String[] parts = {" ward 1", " unless cat", " chance 5"};
        for (int set = 0; set < 8; set++) {
            String text = head;
            for (int i = 0; i < 3; i++) {
                text += (set >> i & 1) != 0 ? parts[i] : "";
            }
            good(1, text + ";", 1);
        }
        for (int i = 0; i < 3; i++) {
            for (int j = 0; j <= i; j++) {
                bad(1, head + parts[i] + parts[j] + ";", 1, head.length() + parts[i].length() + 1);
            }
        }
    }

    /** "3 (at its KEYWORD) the 11th MISHAP" */
    private static void tenMishaps() {
        String one = "mishap 1 at 0 from 0 to 0;";
        for (int n = 0; n <= 10; n++) {
            good(1, one.repeat(n), n);
        }
        bad(1, one.repeat(11), 3, 260);
        bad(1, one.repeat(10) + "  mishap", 3, 262);
        bad(1, one.repeat(10) + ";", 1, 260);
        AngelTown x = new AngelTown();
        StringBuilder text = new StringBuilder();
        for (int i = 0; i < 10; i++) {
            text.append("mishap ").append(i + 1).append(" at ").append(i).append(" from ").append(i).append(" to ").append(2 * i).append(';');
        }
        due("P10 ten of their own", Check.tell(x, 1, 0, text.toString()), 10);
        for (int i = 0; i < 10; i++) {
            due("P15 harm of " + i, x.mishap(i, 0), i + 1);
            due("P15 place of " + i, x.mishap(i, 1), 8 * (i / 8) + i % 8);
            due("P15 from of " + i, x.mishap(i, 2), i);
            due("P15 to of " + i, x.mishap(i, 3), 2 * i);
        }
    }

    /** "wait N ;", "(N 1 .. 60.)" */
    private static void waitsAreOneToSixty() {
        bounds(2, "wait ", 1, 60, ";", false);
    }

    /** "{go P ; | KIND ; | wait N ;}" */
    private static void ordersOfPlans() {
        for (String kind : KINDS) {
            good(2, kind + ";", 1);
            bad(2, kind, 1, kind.length());
            bad(2, kind + " 1;", 1, kind.length() + 1);
            bad(2, kind + kind + ";", 1, 0);
        }
        String[] no = {"stand 1;", "again 1()", "works;", "mishap 1;", ";", "(", "1", "unless push;", "kind;"};
        for (String text : no) {
            bad(2, text, 1, 0);
            bad(2, "go 0; " + text, 1, 6);
        }
        bad(2, "go push;", 1, 3);
        bad(2, "go 0", 1, 4);
        bad(2, "wait 5", 1, 6);
    }

    /** "the 41st ORDER of a PLAN" */
    private static void fortyOrders() {
        String[] orders = {"go 0;", "push;", "wait 1;", "cat;"};
        String[] words = {"go", "gust", "glove", "door", "cat", "push", "wait"};
        for (String order : orders) {
            good(2, order.repeat(39), 39);
            good(2, order.repeat(40), 40);
            for (String word : words) {
                bad(2, order.repeat(40) + " " + word, 3, 40 * order.length() + 1);
            }
            bad(2, order.repeat(40) + "east 1;", 1, 40 * order.length());
        }
    }

    /** "the 17th line of THE LAW" */
    private static void sixteenLines() {
        good(3, "fails;".repeat(16), 16);
        good(3, "works when x=1;".repeat(16), 16);
        bad(3, "fails;".repeat(16) + "works;", 3, 96);
        bad(3, "fails;".repeat(16) + "\nfails when", 3, 97);
        bad(3, "fails;".repeat(16) + "when", 1, 96);
    }

    /** "(at it) the 9th ( or not that is open" */
    private static void eightAreOpen() {
        // of eight that are open each may be a ( or a not
        for (int set = 0; set < 256; set++) {
            StringBuilder text = new StringBuilder("works when ");
            StringBuilder closing = new StringBuilder();
            for (int i = 0; i < 8; i++) {
                text.append((set >> i & 1) != 0 ? "not " : "(");
                closing.append((set >> i & 1) != 0 ? "" : ")");
            }
            good(3, text + "x=1" + closing + ";", 1);
            bad(3, text + "(x=1)" + closing + ";", 3, text.length());
            bad(3, text + "not x=1" + closing + ";", 3, text.length());
        }
    }

    private static void whatIsClosedIsNotOpen() {
        good(3, "works when ((((((((1=1)))))))) and ((((((((1=1)))))))) or ((((((((1=1))))))));", 1);
        good(3, "works when not not not not not not not not 1=1 and not not not not not not not not 1=1;", 1);
        good(3, "works when (((((((not 1=1 or not 1=1) or (1=1)) and not 1=1)))));", 1);
        good(3, "works when ((((((((1=1))))))));fails when ((((((((1=1))))))));", 2);
        bad(3, "works when (((((((not 1=1 and (not 1=1)))))))));", 3, 31);
        bad(3, "works when (((((((1=1 or not(1=1))))))));", 3, 28);
    }

    /** "NUMBERS of 1 to 4 digits or none" */
    private static void numbersHaveFourDigits() {
        String[] good = {"0", "9", "00", "99", "000", "999", "0000", "9999"};
        for (String n : good) {
            good(3, "works when " + n + "=1;", 1);
        }
        String[] bad = {"00000", "10000", "99999", "000000000001", "4294967296"};
        for (String n : bad) {
            bad(3, "works when " + n + "=1;", 1, 11);
            bad(0, "east " + n + ";", 1, 5);
            bad(2, "go " + n + ";", 1, 3);
        }
    }

    /** "2 (at the NUMBER) a part by 0" */
    private static void partsByNone() {
        String[] none = {"0", "00", "000", "0000"};
        for (String n : none) {
            bad(3, "works when x/" + n + "=1;", 2, 13);
            bad(3, "works when 1=x*2/3/ " + n + ";", 2, 20);
        }
        good(3, "works when x/1=1/9999;", 1);
        good(3, "works when 0/1=0*0;", 1);
        bad(3, "works when x/x=1;", 1, 13);
        bad(3, "works when x/(1)=1;", 1, 13);
    }

    /** "letters as many as stand together are KEYWORDS .. or none" */
    private static void lettersStandTogether() {
        bad(0, "easteast 1;", 1, 0);
        bad(0, "eas t 1;", 1, 0);
        bad(0, "eastx 1;", 1, 0);
        bad(0, "EAST 1;", 1, 0);
        bad(0, "easT 1;", 1, 0);
        bad(3, "works when xy=1;", 1, 11);
        bad(3, "works whenx=1;", 1, 6);
        good(3, "works when 1=x or y=2and x=3or 4=pace;", 1);
        good(0, "east1;west2;again2(north3;)", 9);
        good(1, "mishap1at0from0to0ward1unless cat chance5;", 1);
        bad(1, "mishap1at0from0to0unlesscat;", 1, 18);
    }

    /** "KEYWORDS (those told here for that text)" */
    private static void keywordsAreThoseOfTheText() {
        String[][] words = {{"stand", "north", "east", "south", "west", "again"},
            {"mishap"}, {"go", "push", "gust", "glove", "door", "cat", "wait"}, {"works", "fails"}};
        String[] others = {"at", "from", "to", "ward", "unless", "chance", "when", "or", "and", "not", "kind", "second", "x", "y",
            "wards", "spoilt", "angel", "done", "pace"};
        for (int k = 0; k < 4; k++) {
            for (int j = 0; j < 4; j++) {
                for (String word : words[j]) {
                    // what begins one text faults behind its word, what begins another one faults at it
                    bad(k, word, 1, j == k ? word.length() : 0);
                }
            }
            for (String word : others) {
                bad(k, word + " 1;", 1, 0);
            }
        }
        for (String value : VALUES) {
            good(3, "works when " + value + "=1;", 1);
            bad(3, "works when " + value + value + "=1;", 1, 11);
        }
        String[] no = {"ward", "place", "harm", "push", "go", "z", "w", "guard", "state", "at"};
        for (String word : no) {
            bad(3, "works when " + word + "=1;", 1, 11);
        }
    }

    /** "Blanks (32, 10) between." */
    private static void blanks() {
        good(0, "   \n\n  ", 0);
        good(0, " \n again \n 2 \n ( \n east \n 3 \n ; \n ) \n ", 6);
        good(3, "works when(1 <2)and\n\nnot\n( 3* 4 / 5>\nx - y ) ;", 1);
        int[] no = {0, 1, 8, 9, 11, 12, 13, 31, 33, 127, 128, 133, 160, 255};
        for (int c : no) {
            bad(0, "east" + (char) c + "1;", 1, 4);
            bad(0, "east 1;" + (char) c, 1, 7);
            bad(0, (char) c + "east 1;", 1, 0);
        }
        bad(0, "east 1 0;", 1, 7);
    }

    /** "; + - * / ( ) < = >", and no other byte */
    private static void signsAndOtherBytes() {
        String signs = ";+-*/()<=>";
        for (int c = 0; c < 256; c++) {
            boolean letter = c >= 'a' && c <= 'z' || c >= 'A' && c <= 'Z';
            boolean digit = c >= '0' && c <= '9';
            boolean blank = c == 32 || c == 10;
            if (c == '<' || c == '=' || c == '>') {
                good(3, "works when 1" + (char) c + "1;", 1);
            } else if (c == '+' || c == '-' || c == '*' || c == '/') {
                good(3, "works when 1" + (char) c + "1=1;", 1);
                bad(3, "works when 1" + (char) c + "1;", 1, 14);
            } else if (digit) {
                bad(3, "works when 1" + (char) c + "1;", 1, 14);
            } else if (blank) {
                bad(3, "works when 1" + (char) c + "1;", 1, 13);
            } else {
                due("a letter or what can't stand", letter || !signs.contains("" + (char) c) || c == ';' || c == '(' || c == ')', true);
                bad(3, "works when 1" + (char) c + "1;", 1, 12);
            }
        }
    }

    /** "1 what can't stand there", at every token of a text */
    private static void everyTokenThatCantStand() {
        String[][] texts = {{"again", "2", "(", "east", "1", ";", "stand", "2", ";", ")", "west", "3", ";"},
            {"mishap", "1", "at", "0", "from", "0", "to", "0", "ward", "1", "unless", "door", "chance", "5", ";"},
            {"go", "0", ";", "push", ";", "wait", "3", ";"},
            {"works", "when", "not", "(", "x", "+", "2", "*", "y", "/", "3", "<", "4", "or", "5", "=", "6", "and", "7", ">", "8", ")", ";"}};
        for (int k = 0; k < 4; k++) {
            for (int i = 0; i < texts[k].length; i++) {
                StringBuilder before = new StringBuilder();
                for (int j = 0; j < i; j++) {
                    before.append(texts[k][j]).append(' ');
                }
                bad(k, before + "up", 1, before.length());
                bad(k, before + "# ", 1, before.length());
            }
        }
    }

    /** "(the end: the text's length)" */
    private static void theEndIsTheTextsLength() {
        bad(0, "east", 1, 4);
        bad(0, "east ", 1, 5);
        bad(0, "east 1   ", 1, 9);
        bad(0, "again 1(\n\n", 1, 10);
        bad(1, "mishap 1 at 0 from 0 to 0 ward 1 unless cat chance 9\n", 1, 53);
        bad(2, "push;go", 1, 7);
        bad(3, "works when x<1 ", 1, 15);
        bad(3, "works when x<1 and", 1, 18);
        String full = " ".repeat(395) + "east ";
        bad(0, full, 1, 400);
    }

    /** "FAULTS, the first by its place" */
    private static void theFirstFaultByItsPlace() {
        bad(0, "east 0;up 1;", 2, 5);
        bad(0, "up 1;east 0;", 1, 0);
        bad(0, "east 61", 2, 5);
        bad(0, "again 1(again 1(again 1(again 1(again 0(", 3, 32);
        bad(0, "again 1(again 1(again 1(again 0(again 1(", 2, 30);
        bad(0, "east 60;".repeat(11) + "east 0;", 2, 93);
        bad(1, "mishap 0 at 99 from 600 to 600 ward 9 chance 0", 2, 7);
        bad(1, "mishap 1 at 99 from 600 to 600 ward 9 chance 0", 2, 12);
        bad(1, "mishap 1 at 0 from 600 to 601 ward 9 chance 0", 2, 19);
        bad(1, "mishap 1 at 0 from 6 to 5 ward 9 chance 0", 2, 24);
        bad(1, "mishap 1 at 0 from 6 to 6 ward 9 chance 0", 2, 31);
        bad(1, "mishap 1 at 0 from 6 to 6 ward 1 chance 0", 2, 40);
        bad(2, "go 99;wait 0", 2, 3);
        bad(2, "cat;".repeat(40) + "wait 0;", 3, 160);
        bad(2, "cat;".repeat(39) + "wait 0;cat;", 2, 161);
        bad(3, "works;".repeat(16) + "works when x/0=1", 3, 96);
        bad(3, "works;".repeat(15) + "works when x/0=1;works;", 2, 103);
        bad(3, "works when x/0=(1;", 2, 13);
        bad(3, "works when ((((((((x/0=1 and (", 2, 21);
        bad(3, "works when (((((((((x/0=1", 3, 19);
    }

    /** "at one place the least" */
    private static void atOnePlaceTheLeast() {
        // 1 and 4 at the end
        bad(0, "again 9(again 9(east 60;)", 1, 25);
        bad(0, "east 60;".repeat(11) + "east 1", 1, 94);
        // 1 and 3: an again, a (, a not, a mishap, an order, a line that would be one too many, but can't stand there either
        bad(0, "again 1(again 1(again 1(again 1(east again 1(", 1, 37);
        bad(0, "again 1(again 1(again 1(again 1(east 1 again 1(", 1, 39);
        bad(0, "again 1(again 1(again 1(again again", 1, 30);
        bad(3, "works when ((((((((x(", 1, 20);
        bad(3, "works when ((((((((x=(", 1, 21);
        bad(3, "works when ((((((((x=1 not", 1, 23);
        bad(3, "works when ((((((((x not", 1, 21);
        bad(3, "works when not not not not not not not not x=(", 1, 45);
        bad(1, "mishap 1 at 0 from 0 to 0;".repeat(9) + "mishap 1 at 0 from 0 to 0 mishap", 1, 260);
        bad(2, "cat;".repeat(39) + "cat cat", 1, 160);
        bad(3, "works;".repeat(15) + "works works", 1, 96);
        // 1 and 2: a number beyond its bounds that can't stand there
        bad(0, "east 1 99;", 1, 7);
        bad(3, "works when x 0=1;", 1, 13);
        bad(2, "push 0;", 1, 5);
    }

    /** Whether one doing in second 3 at place 26 by angel 1 works by a condition. */
    private static void says(String condition, boolean want) {
        AngelTown x = new AngelTown();
        x.ward(26);
        x.ward(26);
        x.angel(26, 7);
        x.angel(26, 5);
        x.other(26, 3, 3);
        Check.tell(x, 2, 1, "cat;wait 1;door;glove;");
        Check.tell(x, 3, 0, "works when " + condition + ";fails;");
        x.seconds(4);
        due("P10 " + condition, x.book(2, 4), want ? 1 : 0);
    }

    /** "Ints, which wrap" */
    private static void intsWrap() {
        // 9999 * 9999 * 21 = 2099580021, and with 22 it is 2199560022, which wraps to -2095407274
        says("9999*9999*21>0", true);
        says("9999*9999*22<0", true);
        // 2147483647 = 9999 * 9999 * 21 + 9999 * 4790 + 8416
        says("9999*9999*21+9999*4790+8416>0", true);
        says("9999*9999*21+9999*4790+8417<0", true);
        says("0-9999*9999*21-9999*4790-8417<0", true);
        says("0-9999*9999*21-9999*4790-8418>0", true);
        says("9999*9999*21+9999*4790+8417=0-9999*9999*21-9999*4790-8417", true);
    }

    /** "/ goes towards 0" */
    private static void partsGoTowardsNone() {
        says("7/2=3", true);
        says("7/1=7", true);
        says("7/7=1", true);
        says("7/8=0", true);
        says("9999/9999=1", true);
        says("8/2=4", true);
        says("1/2=0", true);
        says("0-7/2=0-3", true);
        // what is parted is below 0 by wrapping alone: 9999 * 9999 * 22 is -2095407274, a thousandth of it -2095407 and not -2095408
        says("9999*9999*22/1000=0-9999*209-5616", true);
        says("9999*9999*22/1000=0-9999*209-5617", false);
    }

    /** B, A, C, E and T */
    private static void howTightlyTheLawBinds() {
        says("1=1 or 1=1 and 1=2", true);
        says("1=2 and 1=1 or 1=1", true);
        says("(1=1 or 1=1)and 1=2", false);
        says("not 1=2 and 1=2", false);
        says("not 1=1 or 1=1", true);
        says("not(1=1 or 1=1)", false);
        says("2+3*4=14", true);
        says("2*3+4=10", true);
        says("9-3-2=4", true);
        says("9-3+2=8", true);
        says("24/4/3=2", true);
        says("7/2*2=6", true);
        says("2*7/2=7", true);
        says("1+7/2*2-1=6", true);
        says("1<1", false);
        says("1>1", false);
        says("0<1 and 1>0", true);
        says("1=0 or 0=1", false);
        says("1=2 and(1=1)", false);
        says("1=1 and(1=2)", false);
        says("1=2 or(1=1)", true);
        says("1=2 or(1=2)", false);
        says("1=2 and(1=1 or 1=1)", false);
        says("1=1 and(1=2 or 1=1)", true);
        says("(1=2 and 1=1)or(1=1 and 1=1)", true);
        says("1=1 and not(1=2 or 1=1)", false);
    }

    /** At each of eight that are open an or and an and wait for what stands within. */
    private static void deepConditions() {
        String[] ends = {"9-2*3=3", "9-2*3=4"};
        for (int i = 0; i < 2; i++) {
            says("1=2 or 1=1 and(".repeat(8) + ends[i] + ")".repeat(8), i == 0);
            says("1=2 or 1=1 and(".repeat(8) + "1=2 or 1=1 and " + ends[i] + ")".repeat(8), i == 0);
            says("not(1=2 or 1=1 and ".repeat(4) + ends[i] + ")".repeat(4), i == 0);
            says("not(1=2 or 1=1 and ".repeat(3) + ends[i] + ")".repeat(3), i == 1);
        }
    }

    /** A line of 400 bytes, with as many values and signs as these hold, told again and again */
    private static void lawsAsLongAsTheTape() {
        AngelTown x = new AngelTown();
        x.angel(0, 1);
        for (int round = 0; round < 6; round++) {
            // the first half of it or the second one is so: 1 + 1 + .. is 90
            String sum = "1+".repeat(89) + "1=";
            String text = "works when " + sum + (round % 2 == 0 ? "90" : "91") + " or " + sum + (round % 3 == 0 ? "90" : "89") + ";";
            due("P10 a line", Check.tell(x, 3, 0, text + " ".repeat(400 - text.length())), 1);
            Check.tell(x, 2, 0, "push;");
            x.other(0, round, round);
            x.seconds(1);
            due("P16 by it, in round " + round, x.book(round, 4), round % 2 == 0 || round % 3 == 0 ? 1 : 0);
        }
        AngelTown y = new AngelTown();
        y.angel(0, 1);
        y.other(0, 0, 9);
        String most = "works when " + "1+".repeat(191) + "1=192;\n";
        due("as long as the tape", most.length(), 400);
        due("P10 a line", Check.tell(y, 3, 0, most), 1);
        due("P10 told again", Check.tell(y, 3, 0, most), 1);
        Check.tell(y, 2, 0, "push;push;");
        y.seconds(1);
        due("P16 it is so", y.book(0, 4), 1);
        Check.tell(y, 3, 0, most.replace("192", "191"));
        y.seconds(1);
        due("P16 it is not so", y.book(1, 4), 0);
    }

    /** An empty text is one. */
    private static void emptyTexts() {
        for (int k = 0; k < 4; k++) {
            good(k, "", 0);
            good(k, " ", 0);
            good(k, "\n", 0);
        }
        AngelTown x = Whole.lively();
        x.end(0);
        due("P10 no way", x.text(0, 0), 0);
        due("P13 none is left", x.of(0, 2), 0);
        due("P10 no plan", x.text(2, 1), 0);
        due("P14 none is left", x.at(1, 4), 0);
        due("P10 no mishaps", x.text(1, 0), 0);
        due("P26 none", x.look(6), 0);
        due("P10 no law", x.text(3, 0), 0);
        due("P26 none", x.look(8), 0);
    }

    /** "NONE: no such one (fault() tells 0)" */
    private static void noSuchOne() {
        int[] far = {Integer.MIN_VALUE, -9, -1, 2, 3, 8, Integer.MAX_VALUE};
        for (int who : far) {
            AngelTown x = small();
            Check.tell(x, 0, 0, "up");
            due("P10 ward " + who, Check.tell(x, 0, who, "up"), NONE);
            due("P11 no fault", x.fault(0), 0);
            due("P11 no place", x.fault(1), NONE);
            Check.tell(x, 0, 0, "up");
            due("P10 angel " + who, Check.tell(x, 2, who, "up"), NONE);
            due("P11 no fault", x.fault(0), 0);
            due("P11 no place", x.fault(1), NONE);
            due("P10 who is not asked of mishaps", Check.tell(x, 1, who, "mishap 1 at 0 from 0 to 0;"), 1);
            due("P10 nor of the law", Check.tell(x, 3, who, "works;"), 1);
            int k = who == 2 || who == 3 ? 4 : who;
            Check.tell(x, 0, 0, "up");
            due("P10 text " + k, Check.tell(x, k, 0, "works;"), NONE);
            due("P11 no fault", x.fault(0), 0);
            due("P10 the tape is empty then", x.end(1), false);
        }
        AngelTown x = small();
        due("P10 the last ward", Check.tell(x, 0, 1, "east 1;"), 1);
        due("P10 no angel behind the last one", Check.tell(x, 2, 1, "push;"), NONE);
        Whole.refused(CHECK, "P10 no such one", y -> {
            Check.feed(y, "");
            y.text(0, 3);
            y.text(0, -1);
            y.text(2, 2);
            y.text(2, -1);
            y.text(4, 0);
            y.text(-1, 0);
            y.end(0);
            // the fault and the tape of the lively town once more
            Check.tell(y, 2, 0, "push;wait 61;");
            Check.feed(y, "works;works when x>1");
        });
    }

    /** "Of the latest text() what 0 the FAULT (0 without one), 1 its place (NONE). NONE for another what." */
    private static void faultTellsOfTheLatest() {
        AngelTown x = small();
        due("P11 none at first", x.fault(0), 0);
        due("P11 no place at first", x.fault(1), NONE);
        Check.tell(x, 0, 0, "east 0;");
        due("P11 2", x.fault(0), 2);
        due("P11 at 5", x.fault(1), 5);
        x.seconds(1);
        x.ward(0);
        x.feed(0, 0, 0, 0, 0);
        x.end(0);
        due("P11 yet", x.fault(0), 2);
        due("P11 yet at 5", x.fault(1), 5);
        Check.tell(x, 3, 0, "works");
        due("P11 the latest", x.fault(0), 1);
        due("P11 the latest's place", x.fault(1), 5);
        Check.tell(x, 1, 0, "");
        due("P11 none", x.fault(0), 0);
        due("P11 no place", x.fault(1), NONE);
        Check.tell(x, 0, 0, "east 0;");
        int[] far = {Integer.MIN_VALUE, -2, -1, 2, 3, Integer.MAX_VALUE};
        for (int what : far) {
            due("P11 what " + what, x.fault(what), NONE);
        }
    }

    /** "or a FAULT (it stays as it was)" */
    private static void faultyTextsLeaveAll() {
        Whole.refused(CHECK, "P10 a faulty text", x -> {
            x.end(0);
            Check.tell(x, 0, 0, "stand 9;east 61;");
            Check.tell(x, 0, 1, "again 9(again 9(east 60;))");
            Check.tell(x, 0, 2, "again 1(again 1(again 1(again 1(again 1(");
            Check.tell(x, 1, 0, "mishap 1 at 0 from 0 to 99;mishap 2 at 0 from 0 to 99");
            Check.tell(x, 2, 1, "cat;".repeat(41));
            Check.tell(x, 2, 0, "go 0;go 64;");
            Check.tell(x, 3, 0, "fails;fails when x/0=1;");
            Check.tell(x, 3, 0, "works;".repeat(17));
            Check.tell(x, 2, 0, "push;wait 61;");
            Check.feed(x, "works;works when x>1");
        });
    }

    /** "Told anew none is OVER." */
    private static void mishapsToldAnew() {
        AngelTown x = new AngelTown();
        x.ward(0);
        x.angel(0, 1);
        x.state(0);
        String three = "mishap 5 at 0 from 0 to 9;mishap 6 at 0 from 0 to 9 chance 63;mishap 7 at 0 from 0 to 9;";
        Check.tell(x, 1, 0, three);
        x.seconds(1);
        due("P15 it HAPPENED", x.mishap(0, 7), 2);
        due("P15 it PASSED", x.mishap(1, 7), 3);
        Check.tell(x, 1, 0, three);
        for (int i = 0; i < 3; i++) {
            due("P15 none is OVER", x.mishap(i, 7), 0);
            due("P15 foreseen anew", x.mishap(i, 8), 1);
            due("P15 by no line", x.mishap(i, 9), NONE);
        }
        due("P26 no harm", x.look(10), 0);
        Check.tell(x, 2, 0, "push;");
        due("P12 all come anew", x.seconds(1), 3);
        due("P26 all were averted", x.look(11), 3);
        due("P16 by one doing", x.book(0, 5), 7);
        Check.tell(x, 1, 0, three);
        due("P26 none was averted", x.look(11), 0);
        due("P16 by no doing", x.book(0, 5), 0);
        due("P26 the book stays", x.look(7), 1);
        Check.tell(x, 1, 0, "mishap 5 at 0 from 0 to 9;");
        due("P26 those alone that are told", x.look(6), 1);
        due("P15 no other", x.mishap(1, 0), NONE - 1);
    }

    /** "A WAY .. told: it begins with the SECOND that goes by next; STILL .. 0" */
    private static void aWayToldAnew() {
        AngelTown x = new AngelTown();
        x.set(1, 0, 9);
        x.ward(0);
        x.ward(0);
        x.angel(0, 1);
        Check.tell(x, 0, 0, "east 5;");
        Check.tell(x, 0, 1, "east 5;");
        Check.tell(x, 2, 0, "wait 2;go 2;push;");
        x.seconds(2);
        Check.tell(x, 2, 0, "go 2;");
        Check.tell(x, 0, 0, "south 3;");
        due("P13 three are left", x.of(0, 2), 3);
        due("P13 of the other one three", x.of(1, 2), 3);
        x.seconds(1);
        due("P13 it begins with the next one", x.of(0, 0), 10);
        due("P13 the other one goes on", x.of(1, 0), 3);
        due("P13 two are left", x.of(0, 2), 2);
        Check.tell(x, 0, 0, "stand 9;");
        x.seconds(1);
        Check.tell(x, 2, 0, "go 10;push;");
        x.seconds(2);
        due("P13 he stands still", x.of(0, 1), 8);
        Check.tell(x, 0, 1, "west 1;");
        due("P13 another's way is nothing to him", x.of(0, 1), 8);
        Check.tell(x, 0, 0, "west 1;");
        due("P13 STILL is 0", x.of(0, 1), 0);
        x.seconds(1);
        due("P13 he goes at once", x.of(0, 0), 9);
    }

    /** "a PLAN told: it begins with the SECOND that goes by next; .. BUSY .. 0 (an ANGEL on his way is where he set out)" */
    private static void aPlanToldAnew() {
        AngelTown x = new AngelTown();
        x.angel(0, 2);
        x.angel(0, 2);
        Check.tell(x, 2, 0, "push;go 3;push;");
        Check.tell(x, 2, 1, "push;go 3;push;");
        x.seconds(6);
        due("P14 a second of his way is left yet", x.at(0, 2), 1);
        Check.tell(x, 2, 0, "cat;go 1;door;");
        due("P14 BUSY is 0", x.at(0, 2), 0);
        due("P14 where he set out", x.at(0, 0), 0);
        due("P14 three orders", x.at(0, 4), 3);
        due("P14 DONE stays", x.at(0, 3), 1);
        due("P14 the other one is busy", x.at(1, 2), 1);
        x.seconds(1);
        due("P16 it begins with the next one", x.book(2, 2), 4);
        due("P16 there", x.book(2, 3), 0);
        due("P14 the other one is at his goal", x.at(1, 0), 3);
        due("P14 he is not", x.at(0, 0), 0);
        x.seconds(3);
        due("P14 then he is where his new plan leads", x.at(0, 0), 1);
        Check.tell(x, 2, 0, "wait 9;");
        x.seconds(3);
        due("P14 he waits", x.at(0, 2), 6);
        Check.tell(x, 2, 0, "");
        due("P14 no more", x.at(0, 2), 0);
        x.seconds(9);
        due("P14 where he was", x.at(0, 0), 1);
    }
}
