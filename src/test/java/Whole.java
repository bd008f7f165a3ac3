import java.util.ArrayList;
import java.util.List;
import java.util.function.Consumer;

/** All that can be asked of a town as one row, so that two towns can be held against each other. */
final class Whole {
    private static final int NONE = AngelTown.NONE;

    private Whole() {
    }

    /** A town with wards on their ways, angels with plans and one of the others. */
    static AngelTown peopled() {
        AngelTown x = new AngelTown();
        x.town(5, 4);
        x.state(4242);
        x.ward(0);
        x.ward(3);
        x.ward(18);
        x.angel(0, 1);
        x.angel(28, 2);
        x.other(1, 2, 3);
        x.set(1, 0, 2);
        x.set(1, 4, 3);
        Check.tell(x, 0, 0, "again 3(east 1;stand 1;)south 3;");
        Check.tell(x, 0, 1, "west 4;south 4;");
        Check.tell(x, 2, 0, "push;go 1;door;cat;go 8;gust;");
        Check.tell(x, 2, 1, "go 18;glove;wait 2;go 12;push;push;");
        return x;
    }

    /** A town in which all there is to tell was told, with seconds to undo, an image, a fault and a tape. */
    static AngelTown lively() {
        AngelTown x = peopled();
        x.other(18, 0, 599);
        x.set(0, 0, 2);
        Check.tell(x, 1, 0, "mishap 30 at 1 from 0 to 9 chance 40;mishap 20 at 18 from 3 to 20 unless push chance 80;"
            + "mishap 9 at 2 from 1 to 30 ward 1;mishap 70 at 8 from 0 to 40 chance 10;mishap 8 at 3 from 0 to 0;");
        Check.tell(x, 3, 0, "fails when second>6 and kind=4;works when spoilt=0 or done>1;");
        x.seconds(1);
        x.image(true);
        x.seconds(3);
        Check.tell(x, 2, 0, "push;wait 61;");
        Check.feed(x, "works;works when x>1");
        return x;
    }

    /** Asks of everything; the last questions (tape, undo, image) alter the town. */
    static List<Long> of(AngelTown x) {
        List<Long> all = new ArrayList<>();
        told(all, x);
        thought(all, x);
        tape(all, x);
        while (all.size() < 500 && x.undo()) {
            gone(all, x);
        }
        all.add(x.image(false) ? 1L : 0L);
        gone(all, x);
        for (int what = 0; what < 25; what++) {
            all.add((long) x.look(what));
        }
        return all;
    }

    private static void told(List<Long> all, AngelTown x) {
        for (int what = 0; what < 25; what++) {
            all.add((long) x.look(what));
        }
        for (int w = 0; w < x.look(3); w++) {
            for (int what = 0; what < 3; what++) {
                all.add((long) x.of(w, what));
            }
        }
        for (int a = 0; a < x.look(4); a++) {
            for (int what = 0; what < 7; what++) {
                all.add((long) x.at(a, what));
            }
        }
        for (int i = 0; i < x.look(6); i++) {
            for (int what = 0; what < 11; what++) {
                all.add((long) x.mishap(i, what));
            }
        }
        for (int i = 0; i < Math.min(8, x.look(7)); i++) {
            for (int what = 0; what < 6; what++) {
                all.add((long) x.book(i, what));
            }
        }
        all.add((long) x.fault(0));
        all.add((long) x.fault(1));
    }

    private static void thought(List<Long> all, AngelTown x) {
        for (int what = 0; what < 2; what++) {
            all.add((long) x.planned(what));
            all.add((long) x.least(what));
            all.add((long) x.fewest(what));
            all.add(x.lot(3, what));
            all.add((long) x.near(0, 1, what));
            all.add((long) x.near(1, 0, what));
        }
        for (int a = 0; a < x.look(4); a++) {
            all.add((long) x.least(10 + a));
        }
        all.add((long) x.hopeless());
        all.add((long) x.shows());
    }

    private static void tape(List<Long> all, AngelTown x) {
        int fed = x.feed(0x20202020, 0x20202020, 0x20202020, 0x20202020, 0x20202020);
        all.add((long) fed);
        if (fed != NONE) {
            x.end(fed - 20);
        }
        all.add((long) x.text(3, 0));
        all.add((long) x.fault(0));
        all.add((long) x.fault(1));
    }

    /** Where all are: by that a second that goes back, or an image, is known. */
    private static void gone(List<Long> all, AngelTown x) {
        int[] what = {2, 7, 9, 10, 11, 12};
        for (int k : what) {
            all.add((long) x.look(k));
        }
        for (int w = 0; w < x.look(3); w++) {
            all.add((long) x.of(w, 0));
            all.add((long) x.of(w, 1));
        }
        for (int a = 0; a < x.look(4); a++) {
            all.add((long) x.at(a, 0));
            all.add((long) x.at(a, 2));
        }
    }

    /** Two towns that must answer alike. */
    static void same(Check check, String what, AngelTown x, AngelTown y) {
        List<Long> got = of(x);
        List<Long> want = of(y);
        check.due(what + ": how many answers", got.size(), want.size());
        for (int i = 0; i < Math.min(got.size(), want.size()); i++) {
            check.due(what + " [" + i + "]", got.get(i), want.get(i));
        }
    }

    /** Calls that are refused leave a lively town as it was. */
    static void refused(Check check, String what, Consumer<AngelTown> calls) {
        AngelTown x = lively();
        calls.accept(x);
        same(check, what + " leaves all as it was", x, lively());
    }
}
