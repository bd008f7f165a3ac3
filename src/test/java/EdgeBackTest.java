import java.util.LinkedHashMap;
import java.util.Map;
import java.util.function.Consumer;

/** The edges of UNDO and THE IMAGE, and of promises 24 and 25, sentence by sentence. */
public final class EdgeBackTest {
    private static final Check CHECK = new Check("EdgeBackTest");
    private static final int NONE = AngelTown.NONE;

    public static void main(String[] args) {
        sixAreKept();
        theLatestNotUndoneYet();
        eachSecondGoesBack();
        secondsOfOneCallGoBackOneByOne();
        theLastSecondGoesBack();
        stateAndBookGoBack();
        overGoesBack();
        goingBackAndOnAgain();
        whatIsToldForgets();
        whatIsRefusedForgetsNothing();
        whatIsAskedForgetsNothing();
        theLawForgetsNothing();
        theTapeForgetsNothing();
        takingTheImageForgetsNothing();
        undoWithNothing();
        noImageAtFirst();
        imageOfAll();
        imageOfAFullTown();
        imageLeavesTapeAndFault();
        imageHasNothingToUndo();
        imageMoreThanOnce();
        imageIsTheLatestTaken();
        imageStaysAsItWasTaken();
        imageOutlivesTheTown();
        CHECK.finish();
    }

    private static void due(String what, long got, long want) {
        CHECK.due(what, got, want);
    }

    private static void due(String what, boolean got, boolean want) {
        CHECK.due(what, got, want);
    }

    /** The lively town ahead of its seconds. */
    private static AngelTown early() {
        AngelTown x = Whole.peopled();
        Check.tell(x, 1, 0, "mishap 30 at 1 from 0 to 9 chance 40;mishap 20 at 18 from 3 to 20 unless push chance 80;"
            + "mishap 9 at 2 from 1 to 30 ward 1;mishap 70 at 8 from 0 to 40 chance 10;mishap 8 at 18 from 9 to 9;");
        return x;
    }

    private static AngelTown earlyIn(int second) {
        AngelTown x = early();
        for (int i = 0; i < second; i++) {
            x.seconds(1);
        }
        return x;
    }

    /** "6 are kept" */
    private static void sixAreKept() {
        for (int n = 0; n <= 20; n++) {
            AngelTown x = earlyIn(n);
            int kept = Math.min(n, 6);
            due("P26 what can be undone behind " + n, x.look(12), kept);
            for (int i = 1; i <= kept; i++) {
                due("P24 undone", x.undo(), true);
                due("P26 SECOND", x.look(2), n - i);
                due("P26 what can be undone yet", x.look(12), kept - i);
            }
            due("P24 no more", x.undo(), false);
            due("P26 SECOND stays", x.look(2), n - kept);
        }
    }

    /** "the latest SECOND not undone yet goes back" */
    private static void theLatestNotUndoneYet() {
        AngelTown x = earlyIn(6);
        x.undo();
        x.undo();
        x.seconds(1);
        due("P26 four and one", x.look(12), 5);
        x.seconds(3);
        due("P26 six at most", x.look(12), 6);
        for (int second = 7; second >= 2; second--) {
            due("P24 undone", x.undo(), true);
            due("P26 SECOND", x.look(2), second);
        }
        due("P24 no more", x.undo(), false);
    }

    private static void eachSecondGoesBack() {
        for (int back = 1; back <= 6; back++) {
            for (int second = 6; second <= 18; second += 3) {
                AngelTown x = earlyIn(second);
                for (int i = 0; i < back; i++) {
                    x.undo();
                }
                // what can be undone is not the same, so that is levelled by telling the state as it is
                AngelTown y = earlyIn(second - back);
                x.state(x.look(9));
                y.state(y.look(9));
                Whole.same(CHECK, "P24 " + back + " back from " + second, x, y);
            }
        }
    }

    private static void secondsOfOneCallGoBackOneByOne() {
        AngelTown x = early();
        x.seconds(9);
        due("P26 six of nine", x.look(12), 6);
        for (int second = 8; second >= 3; second--) {
            x.undo();
            due("P26 one by one", x.look(2), second);
        }
        due("P24 no more", x.undo(), false);
        x.state(x.look(9));
        AngelTown y = earlyIn(3);
        y.state(y.look(9));
        Whole.same(CHECK, "P24 back from nine", x, y);
    }

    private static void theLastSecondGoesBack() {
        AngelTown x = new AngelTown();
        x.ward(0);
        Check.tell(x, 1, 0, "mishap 7 at 0 from 599 to 599;");
        for (int i = 0; i < 10; i++) {
            x.seconds(60);
        }
        due("P26 it happened", x.look(10), 7);
        due("P12 nothing goes by", x.seconds(1), NONE);
        due("P24 undone", x.undo(), true);
        due("P26 599", x.look(2), 599);
        due("P26 it did not happen", x.look(10), 0);
        due("P12 it comes anew", x.seconds(1), 1);
        due("P12 nothing goes by", x.seconds(1), NONE);
    }

    /** "(STATE, THE BOOK, too)" */
    private static void stateAndBookGoBack() {
        AngelTown x = new AngelTown();
        x.ward(0);
        x.angel(0, 1);
        x.state(77);
        x.set(0, 0, 0);
        Check.tell(x, 2, 0, "push;gust;wait 1;cat;");
        Check.tell(x, 1, 0, "mishap 1 at 0 from 2 to 9 chance 50;mishap 2 at 0 from 4 to 9 chance 50;mishap 3 at 0 from 1 to 1;");
        int[] lines = new int[7];
        int[] states = new int[7];
        for (int i = 0; i < 7; i++) {
            lines[i] = x.look(7);
            states[i] = x.look(9);
            if (i < 6) {
                x.seconds(1);
            }
        }
        due("P26 lines at last", lines[6], 3);
        due("P26 draws", states[6] != states[3] && states[3] != 77, true);
        due("P16 averted by the second line", x.book(1, 5), 4);
        for (int i = 5; i >= 0; i--) {
            x.undo();
            due("P24 lines in " + i, x.look(7), lines[i]);
            due("P24 STATE in " + i, x.look(9), states[i]);
            due("P24 no line behind the last", x.book(lines[i], 0), NONE);
        }
        Check.tell(x, 2, 0, "door;glove;");
        x.seconds(2);
        due("P16 written anew", x.book(0, 2), 3);
        due("P16 written anew", x.book(1, 2), 2);
        due("P16 no more", x.book(2, 2), NONE);
    }

    private static void overGoesBack() {
        AngelTown x = new AngelTown();
        x.ward(0);
        x.angel(0, 1);
        x.set(0, 0, 0);
        x.state(0);
        Check.tell(x, 2, 0, "wait 2;push;");
        Check.tell(x, 1, 0, "mishap 5 at 0 from 0 to 9;mishap 6 at 0 from 1 to 9 chance 63;mishap 7 at 0 from 2 to 9;");
        x.seconds(3);
        int[] over = {2, 3, 1};
        int[] harm = {0, 5, 5};
        for (int i = 2; i >= 0; i--) {
            due("P15 OVER of " + i, x.mishap(i, 7), over[i]);
            x.undo();
            due("P24 not OVER, " + i, x.mishap(i, 7), 0);
            due("P24 FORESEEN anew, " + i, x.mishap(i, 8), i);
            due("P24 by no line, " + i, x.mishap(i, 9), NONE);
            due("P24 HARM", x.look(10), harm[i]);
            due("P24 AVERTED", x.look(11), 0);
        }
    }

    private static void goingBackAndOnAgain() {
        AngelTown x = earlyIn(9);
        for (int i = 0; i < 6; i++) {
            x.undo();
        }
        x.seconds(6);
        Whole.same(CHECK, "P24 back and on again", x, earlyIn(9));
    }

    private static Map<String, Consumer<AngelTown>> tellings() {
        Map<String, Consumer<AngelTown>> all = new LinkedHashMap<>();
        all.put("state", x -> x.state(x.look(9)));
        all.put("town", x -> x.town(5, 4));
        all.put("set 0", x -> x.set(0, 0, x.look(13)));
        all.put("set 1", x -> x.set(1, 2, 0));
        all.put("set 2", x -> x.set(2, 0, x.at(0, 1)));
        all.put("ward", x -> x.ward(0));
        all.put("angel", x -> x.angel(0, 1));
        all.put("other", x -> x.other(0, 0, 0));
        all.put("text 0", x -> Check.tell(x, 0, 0, "east 1;"));
        all.put("text 1", x -> Check.tell(x, 1, 0, "mishap 1 at 0 from 0 to 0;"));
        all.put("text 2", x -> Check.tell(x, 2, 0, "push;"));
        all.put("an empty text 0", x -> x.text(0, 1));
        all.put("an empty text 1", x -> x.text(1, 0));
        all.put("an empty text 2", x -> x.text(2, 1));
        return all;
    }

    /** "whatever else is told but THE LAW .. forgets them" */
    private static void whatIsToldForgets() {
        for (Map.Entry<String, Consumer<AngelTown>> e : tellings().entrySet()) {
            AngelTown x = earlyIn(7);
            e.getValue().accept(x);
            due("P26 forgotten by " + e.getKey(), x.look(12), 0);
            due("P24 nothing by " + e.getKey(), x.undo(), false);
            x.seconds(1);
            due("P26 the next one is kept behind " + e.getKey(), x.look(12), 1);
            due("P24 it goes back", x.undo(), true);
            due("P24 no other one", x.undo(), false);
        }
    }

    private static void keeps(String what, Consumer<AngelTown> calls) {
        AngelTown x = earlyIn(7);
        calls.accept(x);
        due("P26 kept behind " + what, x.look(12), 6);
        for (int second = 6; second >= 1; second--) {
            due("P24 back behind " + what, x.undo(), true);
            due("P26 SECOND behind " + what, x.look(2), second);
        }
        due("P24 no more", x.undo(), false);
    }

    private static void whatIsRefusedForgetsNothing() {
        keeps("a town that can't be", x -> x.town(9, 9));
        keeps("a guard that can't be", x -> x.set(0, 0, 10));
        keeps("a pause that can't be", x -> x.set(1, 5, 0));
        keeps("a pace that can't be", x -> x.set(2, 0, 0));
        keeps("no such set", x -> x.set(3, 0, 0));
        keeps("a ward that can't be", x -> x.ward(5));
        keeps("an angel that can't be", x -> x.angel(0, 10));
        keeps("an other that can't be", x -> x.other(0, 1, 0));
        keeps("a faulty way", x -> Check.tell(x, 0, 0, "east 1"));
        keeps("faulty mishaps", x -> Check.tell(x, 1, 0, "mishap 1"));
        keeps("a faulty plan", x -> Check.tell(x, 2, 0, "push"));
        keeps("a faulty law", x -> Check.tell(x, 3, 0, "works"));
        keeps("no such ward", x -> Check.tell(x, 0, 3, "east 1;"));
        keeps("no such angel", x -> Check.tell(x, 2, 2, "push;"));
        keeps("no such text", x -> Check.tell(x, 4, 0, ""));
        keeps("seconds that can't be", x -> x.seconds(61));
        keeps("an image that is not", x -> due("P25 none", x.image(false), false));
    }

    private static void whatIsAskedForgetsNothing() {
        keeps("questions", x -> {
            for (int what = 0; what < 12; what++) {
                x.look(what);
                x.of(0, what);
                x.at(0, what);
                x.mishap(0, what);
                x.book(0, what);
                x.planned(what);
                x.least(what);
                x.fewest(what);
                x.lot(3, what);
                x.near(0, 1, what);
                x.fault(what);
            }
            x.hopeless();
            x.shows();
        });
    }

    private static void theLawForgetsNothing() {
        keeps("a law", x -> due("P10 a law", Check.tell(x, 3, 0, "works;fails;"), 2));
        keeps("an empty law", x -> due("P10 an empty law", Check.tell(x, 3, 0, ""), 0));
        AngelTown x = new AngelTown();
        x.angel(0, 1);
        Check.tell(x, 2, 0, "push;push;push;");
        x.seconds(1);
        Check.tell(x, 3, 0, "fails;fails;");
        x.seconds(1);
        Check.tell(x, 3, 0, "works when second=0;fails;fails;");
        x.undo();
        due("P26 the law as it was told last", x.look(8), 3);
        x.seconds(1);
        due("P16 by it", x.book(1, 4), 0);
        x.undo();
        x.undo();
        due("P26 the law stays", x.look(8), 3);
        x.seconds(1);
        due("P16 by it", x.book(0, 4), 1);
    }

    private static void theTapeForgetsNothing() {
        keeps("feed", x -> x.feed(1, 2, 3, 4, 5));
        keeps("end", x -> x.end(0));
        AngelTown x = earlyIn(3);
        Check.tell(x, 1, 0, "up");
        Check.feed(x, "stand 7;");
        x.undo();
        due("P11 fault() does not go back", x.fault(0), 1);
        due("P10 nor does the tape", x.text(0, 0), 7);
    }

    /** "(the taking of THE IMAGE does not)" */
    private static void takingTheImageForgetsNothing() {
        keeps("the taking of the image", x -> due("P25 taken", x.image(true), true));
        AngelTown x = earlyIn(3);
        x.image(true);
        x.undo();
        due("P26 two", x.look(2), 2);
        x.image(false);
        due("P26 the image is not undone", x.look(2), 3);
    }

    /** "true; false if there is nothing" */
    private static void undoWithNothing() {
        due("P24 a new town", new AngelTown().undo(), false);
        AngelTown x = earlyIn(3);
        x.ward(0);
        AngelTown y = earlyIn(3);
        y.ward(0);
        for (int i = 0; i < 8; i++) {
            due("P24 nothing", x.undo(), false);
        }
        Whole.same(CHECK, "P24 nothing leaves all as it was", x, y);
    }

    /** "true; false if there is none" */
    private static void noImageAtFirst() {
        due("P25 none", new AngelTown().image(false), false);
        AngelTown x = earlyIn(3);
        for (int i = 0; i < 3; i++) {
            due("P25 none", x.image(false), false);
        }
        Whole.same(CHECK, "P25 no image leaves all as it was", x, earlyIn(3));
        due("P25 taken", x.image(true), true);
        due("P25 then there is one", x.image(false), true);
    }

    /** "all that is and was told .. as it was when it was taken" */
    private static void imageOfAll() {
        for (int second = 0; second <= 12; second += 4) {
            AngelTown x = earlyIn(second);
            Check.tell(x, 3, 0, "fails when second=5;works;");
            x.image(true);
            for (Consumer<AngelTown> telling : tellings().values()) {
                telling.accept(x);
                x.seconds(1);
            }
            Check.tell(x, 3, 0, "fails;");
            x.state(1);
            x.set(0, 0, 9);
            x.image(false);
            AngelTown y = earlyIn(second);
            Check.tell(y, 3, 0, "fails when second=5;works;");
            y.state(y.look(9));
            y.image(true);
            Whole.same(CHECK, "P25 back to " + second, x, y);
        }
    }

    /** As much as there can be of each, and each of its own. */
    private static AngelTown full() {
        AngelTown x = new AngelTown();
        x.state(5);
        x.set(0, 0, 2);
        for (int k = 0; k < 5; k++) {
            x.set(1, k, k % 4);
        }
        for (int w = 0; w < 8; w++) {
            x.ward(9 * w);
            Check.tell(x, 0, w, "again 9(stand " + (1 + w) + ";east 2;west 2;)");
        }
        for (int a = 0; a < 6; a++) {
            x.angel(11 * a, 1 + a % 3);
            x.other(9 * a, a, a + 20);
            Check.tell(x, 2, a, (a % 2 == 0 ? "push;" : "cat;").repeat(5) + "go " + (20 + a) + ";gust;go " + 9 * a + ";" + "door;".repeat(32));
        }
        StringBuilder mishaps = new StringBuilder();
        for (int i = 0; i < 10; i++) {
            mishaps.append("mishap ").append(10 + i).append(" at ").append(9 * (i % 8)).append(" from ").append(3 * i).append(" to 99");
            mishaps.append(i % 2 == 0 ? " chance 50;" : ";");
        }
        due("P10 ten", Check.tell(x, 1, 0, mishaps.toString()), 10);
        StringBuilder law = new StringBuilder();
        for (int i = 0; i < 16; i++) {
            law.append(i % 2 == 0 ? "works" : "fails").append(" when second=").append(2 * i).append(';');
        }
        due("P10 sixteen", Check.tell(x, 3, 0, law.toString()), 16);
        return x;
    }

    private static void retold(AngelTown x) {
        x.town(8, 8);
        for (int i = 0; i < 8; i++) {
            x.ward(63);
            Check.tell(x, 0, i, "again 9(north 60;)west 60;");
        }
        for (int i = 0; i < 6; i++) {
            x.angel(63, 9);
            Check.tell(x, 2, i, "gust;".repeat(40));
            x.other(63, 0, 599);
        }
        Check.tell(x, 1, 0, "mishap 99 at 62 from 0 to 599 unless cat chance 1;".repeat(8));
        Check.tell(x, 3, 0, "fails;".repeat(16));
        x.seconds(30);
    }

    private static void imageOfAFullTown() {
        int[] seconds = {0, 1, 9, 30};
        for (int second : seconds) {
            AngelTown x = full();
            AngelTown y = full();
            if (second > 0) {
                x.seconds(second);
                y.seconds(second);
            }
            x.image(true);
            retold(x);
            due("P25 back", x.image(false), true);
            y.image(true);
            x.seconds(40);
            y.seconds(40);
            due("P26 the book is full", x.look(7), 100);
            for (int line = 0; line < 100; line += 9) {
                for (int what = 0; what < 6; what++) {
                    due("P25 line " + line, x.book(line, what), y.book(line, what));
                }
            }
            Whole.same(CHECK, "P25 a full town goes on from " + second, x, y);
        }
    }

    /** "but the TAPE, fault()" */
    private static void imageLeavesTapeAndFault() {
        AngelTown x = earlyIn(2);
        Check.feed(x, "stand 4;");
        x.image(true);
        x.end(0);
        Check.tell(x, 1, 0, "mishap 100");
        Check.feed(x, "stand 55;stand 4;");
        due("P25 back", x.image(false), true);
        due("P11 the fault is the latest", x.fault(0), 2);
        due("P11 its place too", x.fault(1), 7);
        due("P10 the tape is the latest", x.text(0, 0), 59);
    }

    /** "and what can be undone (nothing then)" */
    private static void imageHasNothingToUndo() {
        AngelTown x = earlyIn(7);
        x.image(true);
        due("P26 six yet", x.look(12), 6);
        x.seconds(3);
        x.image(false);
        due("P26 nothing then", x.look(12), 0);
        due("P24 nothing", x.undo(), false);
        due("P26 SECOND", x.look(2), 7);
        x.seconds(2);
        due("P26 two", x.look(12), 2);
        x.undo();
        x.undo();
        due("P24 no further than the image", x.undo(), false);
        due("P26 SECOND", x.look(2), 7);
        x.image(true);
        x.image(false);
        due("P26 gone back at once: nothing either", x.look(12), 0);
    }

    /** "gone back to it may be more than once" */
    private static void imageMoreThanOnce() {
        AngelTown x = earlyIn(2);
        x.image(true);
        for (int i = 0; i < 4; i++) {
            x.seconds(1 + 3 * i);
            x.ward(i);
            due("P25 back", x.image(false), true);
            due("P26 SECOND", x.look(2), 2);
            due("P26 wards", x.look(3), 3);
        }
        x.seconds(7);
        x.state(x.look(9));
        AngelTown y = earlyIn(2);
        y.image(true);
        y.seconds(7);
        y.state(y.look(9));
        Whole.same(CHECK, "P25 all goes on from it", x, y);
    }

    private static void imageIsTheLatestTaken() {
        AngelTown x = earlyIn(2);
        x.image(true);
        x.seconds(2);
        x.image(true);
        x.seconds(2);
        x.image(false);
        due("P26 the latest one", x.look(2), 4);
        x.image(false);
        due("P26 no other one", x.look(2), 4);
    }

    /** What is told or goes by behind the taking, or behind the going back, does not alter it. */
    private static void imageStaysAsItWasTaken() {
        AngelTown x = earlyIn(5);
        x.image(true);
        x.image(false);
        for (Consumer<AngelTown> telling : tellings().values()) {
            telling.accept(x);
        }
        Check.tell(x, 3, 0, "fails;");
        x.seconds(60);
        x.image(false);
        AngelTown y = earlyIn(5);
        y.image(true);
        y.image(false);
        x.end(0);
        x.text(3, 0);
        y.text(3, 0);
        Whole.same(CHECK, "P25 as it was taken", x, y);
    }

    private static void imageOutlivesTheTown() {
        AngelTown x = earlyIn(5);
        x.image(true);
        x.town(2, 2);
        x.ward(9);
        x.seconds(9);
        x.town(8, 8);
        due("P25 back", x.image(false), true);
        due("P26 W", x.look(0), 5);
        due("P26 H", x.look(1), 4);
        AngelTown y = earlyIn(5);
        y.image(true);
        y.image(false);
        Whole.same(CHECK, "P25 behind two towns", x, y);
    }
}
