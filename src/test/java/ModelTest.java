import java.util.Random;

/** Random runs of calls, of which each is asked of AngelTown and of PlainTown alike. */
public final class ModelTest {
    private static final String[] KINDS = {"push", "gust", "glove", "door", "cat"};

    private final Random random;
    private final int run;
    private final AngelTown x = new AngelTown();
    private final PlainTown y = new PlainTown();
    private final int mostMishaps;
    private final int mostAngels;
    private String latest = "";
    private int wrong;
    private int calls;

    private ModelTest(int run, int mostMishaps, int mostAngels) {
        this.run = run;
        this.random = new Random(run * 7919L + 13);
        this.mostMishaps = mostMishaps;
        this.mostAngels = mostAngels;
    }

    public static void main(String[] args) {
        int runs = args.length > 0 ? Integer.parseInt(args[0]) : 700;
        int first = args.length > 1 ? Integer.parseInt(args[1]) : 0;
        int wrong = 0;
        long calls = 0;
        for (int run = first; run < first + runs; run++) {
            int shape = run % 10;
            ModelTest t = shape == 0 ? new ModelTest(run, 7, 3) : shape == 1 ? new ModelTest(run, 10, 2)
                : shape == 2 ? new ModelTest(run, 4, 6) : new ModelTest(run, 5, 4);
            if (run % 3 == 2) {
                t.thinkOnly();
            } else {
                t.go();
            }
            wrong += t.wrong;
            calls += t.calls;
        }
        System.out.println("ModelTest: " + runs + " runs, " + calls + " calls, " + wrong + " runs wrong");
        if (wrong != 0) {
            System.exit(1);
        }
    }

    private int r(int n) {
        return random.nextInt(n);
    }

    private boolean one(int n) {
        return r(n) == 0;
    }

    private void due(String call, long got, long want) {
        calls++;
        if (got != want && wrong == 0) {
            wrong = 1;
            System.out.println("run " + run + ", call " + calls + ": " + call + " answered " + got + ", due is " + want
                + "; latest text: " + latest);
        }
    }

    private void due(String call, boolean got, boolean want) {
        due(call, got ? 1 : 0, want ? 1 : 0);
    }

    private void go() {
        int w = 2 + r(4);
        int h = 2 + r(4);
        due("town", x.town(w, h), y.town(w, h));
        for (int i = 1 + r(4); i > 0; i--) {
            addWard();
        }
        for (int i = r(mostAngels + 1); i > 0; i--) {
            addAngel();
        }
        for (int i = 0; i < x.look(3); i++) {
            if (!one(4)) {
                tell(0, i, way(2, 0));
            }
        }
        for (int i = 0; i < x.look(4); i++) {
            if (!one(4)) {
                tell(2, i, plan());
            }
        }
        tell(1, 0, mishaps());
        for (int i = 0; i < 60 && wrong == 0; i++) {
            step();
            if (one(3)) {
                ask();
            }
        }
        lookAtAll();
    }

    /** People who stand, mishaps at one second each, often of equal harm: many ways to see to them. */
    private void thinkOnly() {
        int w = 2 + r(7);
        int h = 2 + r(7);
        due("town", x.town(w, h), y.town(w, h));
        for (int i = 2 + r(5); i > 0; i--) {
            addWard();
        }
        for (int i = 1 + r(mostAngels); i > 0; i--) {
            addAngel();
        }
        for (int round = 0; round < 6 && wrong == 0; round++) {
            int guard = r(10);
            due("set", x.set(0, 0, guard), y.set(0, 0, guard));
            int harms = one(2) ? 1 : 1 + r(4);
            StringBuilder b = new StringBuilder();
            for (int n = 1 + r(mostMishaps); n > 0; n--) {
                int s = y.all.second + r(8 + 4 * round);
                int p = y.all.wards.isEmpty() ? 0 : y.all.wards.get(r(y.all.wards.size())).place;
                b.append("mishap ").append(1 + r(harms)).append(" at ").append(p).append(" from ").append(s).append(" to ").append(s);
                b.append(one(4) ? " chance 50;" : ";");
            }
            due("end 0", x.end(0), y.end(0));
            Check.feed(x, b.toString());
            y.tape = b.toString();
            latest = b.toString();
            due("text 1", x.text(1, 0), y.text(1, 0));
            due("hopeless", x.hopeless(), y.hopeless());
            due("shows", x.shows(), y.shows());
            for (int what = 0; what < 16; what++) {
                due("least " + what, x.least(what), y.least(what));
            }
            for (int a = 0; a < 6; a++) {
                due("worth " + a, x.at(a, 5), y.at(a, 5));
                due("wait " + a, x.at(a, 6), y.at(a, 6));
            }
            due("fewest 0", x.fewest(0), y.fewest(0));
            due("fewest 1", x.fewest(1), y.fewest(1));
            due("seconds", x.seconds(1), y.seconds(1));
        }
    }

    private int place() {
        if (one(30)) {
            return r(80) - 8;
        }
        return 8 * r(y.all.h) + r(y.all.w);
    }

    private void addWard() {
        int p = place();
        due("ward " + p, x.ward(p), y.ward(p));
    }

    private void addAngel() {
        if (y.all.angels.size() >= mostAngels) {
            return;
        }
        int p = place();
        int pace = one(20) ? r(12) : 1 + r(3);
        due("angel " + p, x.angel(p, pace), y.angel(p, pace));
    }

    private void step() {
        int what = r(100);
        if (what < 40) {
            int n = one(12) ? r(70) - 4 : 1 + r(4);
            due("seconds " + n, x.seconds(n), y.seconds(n));
        } else if (what < 50) {
            due("undo", x.undo(), y.undo());
        } else if (what < 54) {
            int v = one(2) ? r(1000) : random.nextInt();
            due("state " + v, x.state(v), y.state(v));
        } else if (what < 60) {
            int a = r(5) - 1;
            int b = r(8) - 1;
            int v = r(12) - 1;
            due("set " + a + " " + b + " " + v, x.set(a, b, v), y.set(a, b, v));
        } else if (what < 62) {
            addWard();
        } else if (what < 63) {
            addAngel();
        } else if (what < 66) {
            int p = place();
            int f = Math.max(0, y.all.second + r(8) - 2);
            int t = f + r(6) - 1;
            due("other " + p, x.other(p, f, t), y.other(p, f, t));
        } else if (what < 72) {
            tell(0, r(Math.max(1, x.look(3)) + (one(10) ? 2 : 0)), way(2, 0));
        } else if (what < 78) {
            tell(1, r(3), mishaps());
        } else if (what < 84) {
            tell(2, r(Math.max(1, x.look(4)) + (one(10) ? 2 : 0)), plan());
        } else if (what < 91) {
            tell(3, 0, law());
        } else if (what < 93) {
            due("image true", x.image(true), y.image(true));
        } else if (what < 95) {
            due("image false", x.image(false), y.image(false));
        } else if (what < 96) {
            int w = 1 + r(9);
            int h = 1 + r(9);
            due("town " + w + " " + h, x.town(w, h), y.town(w, h));
        } else if (what < 98) {
            int[] v = {random.nextInt(), 540028960, random.nextInt(), 1634165097, random.nextInt()};
            due("feed", x.feed(v[0], v[1], v[2], v[3], v[4]), y.feed(v));
            int n = r(24) - 2;
            due("end " + n, x.end(n), y.end(n));
        } else {
            int k = r(6) - 1;
            int who = r(9) - 1;
            due("text " + k + " " + who, x.text(k, who), y.text(k, who));
            faults();
        }
    }

    private void tell(int k, int who, String text) {
        String s = text;
        if (one(8)) {
            s = spoil(s);
        }
        if (s.length() > 400) {
            s = s.substring(0, 400);
        }
        due("end 0", x.end(0), y.end(0));
        Check.feed(x, s);
        y.tape = s;
        latest = s;
        due("text " + k + " " + who, x.text(k, who), y.text(k, who));
        faults();
    }

    private void faults() {
        for (int i = -1; i < 3; i++) {
            due("fault " + i, x.fault(i), y.fault(i));
        }
    }

    private String spoil(String s) {
        StringBuilder b = new StringBuilder(s);
        for (int n = 1 + r(2); n > 0; n--) {
            int p = r(b.length() + 1);
            int how = r(4);
            String signs = ";+-*/()<=> \n019aAstnot:\t" + (char) 233 + (char) 0;
            if (how == 0 && p < b.length()) {
                b.deleteCharAt(p);
            } else if (how == 1 && p < b.length()) {
                b.setCharAt(p, signs.charAt(r(signs.length())));
            } else if (how == 2) {
                b.insert(p, signs.charAt(r(signs.length())));
            } else {
                int q = p + r(b.length() + 1 - p);
                b.append(b.substring(p, q));
            }
        }
        return b.toString();
    }

    private String gap() {
        return one(6) ? one(2) ? "\n" : "  " : "";
    }

    private String way(int deep, int most) {
        StringBuilder b = new StringBuilder();
        for (int n = r(6); n > 0; n--) {
            if (deep > 0 && one(5)) {
                b.append("again ").append(one(15) ? r(12) : 1 + r(3)).append(gap()).append("(");
                b.append(way(deep - 1, 0)).append(gap()).append(")").append(gap());
            } else {
                String[] steps = {"stand", "north", "east", "south", "west"};
                b.append(gap()).append(steps[r(5)]).append(" ").append(one(15) ? r(66) : 1 + r(4)).append(gap()).append(";");
            }
        }
        if (one(60)) {
            return "again 5(again 2(south 58;))again 9(again 1(again 1(again 1(east 2;))))" + b;
        }
        if (one(60)) {
            return "again 1(again 1(again 1(again 1(again 1(" + b;
        }
        return b.toString();
    }

    private String mishaps() {
        StringBuilder b = new StringBuilder();
        int most = one(40) ? 11 : 1 + r(mostMishaps);
        for (int n = most; n > 0; n--) {
            int from = one(25) ? r(620) : Math.max(0, y.all.second + r(10) - 3);
            int to = one(25) ? r(620) : from + r(12) - (one(30) ? 2 : 0);
            if (most > 10) {
                b.append("mishap 1 at 0 from 9 to 9;");
                continue;
            }
            b.append(gap()).append("mishap ").append(one(25) ? r(102) : 1 + r(99)).append(" at ").append(Math.max(0, place()));
            b.append(" from ").append(from).append(" to ").append(to);
            if (one(3)) {
                b.append(" ward ").append(r(Math.max(1, x.look(3)) + (one(15) ? 1 : 0)));
            }
            if (one(3)) {
                b.append(" unless ").append(KINDS[r(5)]);
            }
            if (one(3)) {
                b.append(" chance ").append(one(20) ? r(103) : 1 + r(100));
            }
            b.append(gap()).append(";");
        }
        return b.toString();
    }

    private String plan() {
        StringBuilder b = new StringBuilder();
        int most = one(50) ? 41 : r(12);
        for (int n = most; n > 0; n--) {
            if (most < 41 && one(3)) {
                b.append("go ").append(Math.max(0, place()));
            } else if (most < 41 && one(4)) {
                b.append("wait ").append(one(15) ? r(63) : 1 + r(3));
            } else {
                b.append(KINDS[r(5)]);
            }
            b.append(gap()).append(";").append(gap());
        }
        return b.toString();
    }

    private String law() {
        StringBuilder b = new StringBuilder();
        int most = one(30) ? 17 : r(5);
        for (int n = most; n > 0; n--) {
            b.append(one(2) ? "works" : "fails");
            if (most < 17 && !one(4)) {
                b.append(" when ").append(truth(3));
            }
            b.append(gap()).append(";");
        }
        if (one(30)) {
            b.append("works when ").append("not(".repeat(r(6))).append("1=1").append(")".repeat(r(6))).append(";");
        }
        return b.toString();
    }

    private String truth(int deep) {
        if (deep > 0 && one(3)) {
            return truth(deep - 1) + (one(2) ? " or " : " and ") + truth(deep - 1);
        }
        if (deep > 0 && one(3)) {
            return one(2) ? "not " + truth(deep - 1) : "(" + truth(deep - 1) + ")";
        }
        return value() + gap() + "<=>".charAt(r(3)) + value();
    }

    private String value() {
        StringBuilder b = new StringBuilder(unit());
        for (int n = r(4); n > 0; n--) {
            int how = r(5);
            b.append(gap());
            if (how == 4) {
                b.append("/").append(one(8) ? 0 : 1 + r(5));
            } else {
                b.append("+-**".charAt(how)).append(unit());
            }
        }
        return b.toString();
    }

    private String unit() {
        String[] names = {"kind", "second", "x", "y", "wards", "spoilt", "angel", "done", "pace"};
        return one(3) ? String.valueOf(one(6) ? r(10000) : r(6)) : names[r(9)];
    }

    private void ask() {
        int i = r(12) - 1;
        int what = r(13) - 1;
        due("mishap " + i + " " + what, x.mishap(i, what), y.mishap(i, what));
        i = r(8) - 1;
        what = r(9) - 1;
        due("at " + i + " " + what, x.at(i, what), y.at(i, what));
        what = r(4) - 1;
        due("planned " + what, x.planned(what), what == 0 || what == 1 ? y.planned(what) : AngelTown.NONE);
        what = one(2) ? r(20) - 2 : 10 + r(3);
        due("least " + what, x.least(what), y.least(what));
        what = r(4) - 1;
        due("fewest " + what, x.fewest(what), y.fewest(what));
        due("hopeless", x.hopeless(), y.hopeless());
        due("shows", x.shows(), y.shows());
        int set = one(6) ? random.nextInt() : r(1 << Math.max(1, x.look(6)));
        what = r(4) - 1;
        due("lot " + set + " " + what, x.lot(set, what), y.lot(set, what));
        int a = r(6) - 1;
        int b = r(6) - 1;
        what = r(4) - 1;
        due("near " + a + " " + b + " " + what, x.near(a, b, what), y.near(a, b, what));
        for (int k = -1; k < 27; k++) {
            due("look " + k, x.look(k), y.look(k));
        }
    }

    private void lookAtAll() {
        for (int i = -1; i < 9; i++) {
            for (int what = -1; what < 4; what++) {
                due("of " + i + " " + what, x.of(i, what), y.of(i, what));
            }
        }
        for (int i = -1; i < 7; i++) {
            for (int what = -1; what < 8; what++) {
                due("at " + i + " " + what, x.at(i, what), y.at(i, what));
            }
        }
        for (int i = -1; i < 11; i++) {
            for (int what = -1; what < 12; what++) {
                due("mishap " + i + " " + what, x.mishap(i, what), y.mishap(i, what));
            }
        }
        for (int i = -1; i < 101; i++) {
            for (int what = -1; what < 7; what++) {
                due("book " + i + " " + what, x.book(i, what), y.book(i, what));
            }
        }
        for (int what = -1; what < 18; what++) {
            due("least " + what, x.least(what), y.least(what));
        }
        for (int what = 0; what < 2; what++) {
            due("fewest " + what, x.fewest(what), y.fewest(what));
            due("planned " + what, x.planned(what), y.planned(what));
        }
    }
}
