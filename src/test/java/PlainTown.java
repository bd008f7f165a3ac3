import java.math.BigInteger;
import java.util.ArrayList;
import java.util.Arrays;
import java.util.Collections;
import java.util.List;
import java.util.Map;
import java.util.Set;

/**
 * The document once more, in its plainest form and with the whole library: what ModelTest holds AngelTown
 * against. Whole states are copied where AngelTown keeps rows, and ways are tried one by one.
 */
final class PlainTown {
    static final int NONE = -1;
    static final List<String> KINDS = List.of("push", "gust", "glove", "door", "cat");

    interface Value { int of(Map<String, Integer> names); }
    interface Truth { boolean of(Map<String, Integer> names); }
    record Line(boolean works, Truth when) { }
    record Other(int place, int from, int to) { }
    record Doing(int second, int angel, int kind, int place, boolean worked) { }
    record Order(int what, int value) { }

    static final class Ward implements Cloneable {
        int place, still, taken;
        List<String> way = List.of();
        Ward copy() { try { return (Ward) clone(); } catch (CloneNotSupportedException e) { throw new Error(e); } }
    }

    static final class Angel implements Cloneable {
        int place, pace, busy, done, taken, goal = NONE;
        List<Order> plan = List.of();
        Angel copy() { try { return (Angel) clone(); } catch (CloneNotSupportedException e) { throw new Error(e); } }
    }

    static final class Mishap implements Cloneable {
        int harm, place, from, to, ward = NONE, kind = NONE, chance = 100, over, came = NONE, line = NONE;
        Mishap copy() { try { return (Mishap) clone(); } catch (CloneNotSupportedException e) { throw new Error(e); } }
        int risk() { return harm * chance; }
    }

    static final class All {
        int w = 8, h = 8, guard = 3, second, state;
        int[] pause = new int[5];
        List<Ward> wards = new ArrayList<>();
        List<Angel> angels = new ArrayList<>();
        List<Other> others = new ArrayList<>();
        List<Mishap> mishaps = new ArrayList<>();
        List<Line> law = new ArrayList<>();
        List<Doing> book = new ArrayList<>();

        All copy() {
            All c = new All();
            c.w = w; c.h = h; c.guard = guard; c.second = second; c.state = state;
            c.pause = pause.clone();
            for (Ward x : wards) c.wards.add(x.copy());
            for (Angel x : angels) c.angels.add(x.copy());
            for (Mishap x : mishaps) c.mishaps.add(x.copy());
            c.others.addAll(others);
            c.law.addAll(law);
            c.book.addAll(book);
            return c;
        }

        boolean isPlace(int p) { return p >= 0 && p <= 63 && p % 8 < w && p / 8 < h; }
    }

    All all = new All();
    All picture;
    List<All> past = new ArrayList<>();
    String tape = "";
    int fault, faultPlace = NONE;

    // ---- told

    int state(int v) { int was = all.state; all.state = v; past.clear(); return was; }

    boolean town(int w, int h) {
        if (w < 2 || w > 8 || h < 2 || h > 8) return false;
        int state = all.state;
        all = new All();
        all.w = w; all.h = h; all.state = state;
        past.clear();
        return true;
    }

    boolean set(int what, int which, int v) {
        boolean ok = false;
        if (what == 0 && v >= 0 && v <= 9) { all.guard = v; ok = true; }
        if (what == 1 && which >= 0 && which < 5 && v >= 0 && v <= 9) { all.pause[which] = v; ok = true; }
        if (what == 2 && which >= 0 && which < all.angels.size() && v >= 1 && v <= 9) { all.angels.get(which).pace = v; ok = true; }
        if (ok) past.clear();
        return ok;
    }

    int ward(int place) {
        if (!all.isPlace(place) || all.wards.size() == 8) return NONE;
        Ward x = new Ward();
        x.place = place;
        all.wards.add(x);
        past.clear();
        return all.wards.size() - 1;
    }

    int angel(int place, int pace) {
        if (!all.isPlace(place) || pace < 1 || pace > 9 || all.angels.size() == 6) return NONE;
        Angel x = new Angel();
        x.place = place; x.pace = pace;
        all.angels.add(x);
        past.clear();
        return all.angels.size() - 1;
    }

    int other(int place, int from, int to) {
        if (!all.isPlace(place) || from < 0 || from > 599 || to < from || to > 599 || all.others.size() == 6) return NONE;
        all.others.add(new Other(place, from, to));
        past.clear();
        return all.others.size() - 1;
    }

    int feed(int... five) {
        if (tape.length() > 380) return NONE;
        StringBuilder b = new StringBuilder(tape);
        for (int v : five) b.append((char) (v >>> 24)).append((char) (v >>> 16 & 255)).append((char) (v >>> 8 & 255)).append((char) (v & 255));
        tape = b.toString();
        return tape.length();
    }

    boolean end(int n) {
        if (n < 0 || n > tape.length()) return false;
        tape = tape.substring(0, n);
        return true;
    }

    // ---- texts

    static final class Fault extends RuntimeException {
        final int which, place;
        Fault(int which, int place) { this.which = which; this.place = place; }
    }

    final class Text {
        final List<String> tokens = new ArrayList<>();
        final List<Integer> places = new ArrayList<>();
        int i;

        Text(String s) {
            java.util.regex.Matcher m = java.util.regex.Pattern.compile("[A-Za-z]+|[0-9]+|[ \\n]+|(?s:.)").matcher(s);
            while (m.find()) {
                String t = m.group();
                if (t.matches("[ \\n]+")) continue;
                tokens.add(t.matches("[0-9]{5,}") ? "?" : t);
                places.add(m.start());
            }
            tokens.add("END");
            places.add(s.length());
            // a text can hold no letters END of its own, as they are no keyword
            for (int k = 0; k < tokens.size() - 1; k++) if (tokens.get(k).equals("END")) tokens.set(k, "?");
        }

        String see() { return tokens.get(i); }
        Fault fault(int which) { return new Fault(which, places.get(i)); }
        boolean opt(String t) { if (!see().equals(t)) return false; i++; return true; }
        void need(String t) { if (!opt(t)) throw fault(1); }
        boolean isNumber() { return Character.isDigit(see().charAt(0)); }

        int number(int low, int high) {
            if (!isNumber()) throw fault(1);
            int v = Integer.parseInt(see());
            if (v < low || v > high) throw fault(2);
            i++;
            return v;
        }

        int place() {
            if (!isNumber()) throw fault(1);
            if (!all.isPlace(Integer.parseInt(see()))) throw fault(2);
            return Integer.parseInt(tokens.get(i++));
        }

        int kind() {
            int k = KINDS.indexOf(see());
            if (k < 0) throw fault(1);
            i++;
            return k;
        }

        List<String> steps(int open) {
            List<String> out = new ArrayList<>();
            while (Set.of("stand", "north", "east", "south", "west", "again").contains(see())) {
                String t = see();
                if (t.equals("again") && open == 4) throw fault(3);
                i++;
                if (t.equals("again")) {
                    int n = number(1, 9);
                    need("(");
                    List<String> body = steps(open + 1);
                    need(")");
                    for (int k = 0; k < n; k++) out.addAll(body);
                } else {
                    int n = number(1, 60);
                    need(";");
                    out.addAll(Collections.nCopies(n, t));
                }
            }
            return out;
        }

        List<Mishap> mishaps() {
            List<Mishap> out = new ArrayList<>();
            while (see().equals("mishap")) {
                if (out.size() == 10) throw fault(3);
                i++;
                Mishap m = new Mishap();
                m.harm = number(1, 99);
                need("at");
                m.place = place();
                need("from");
                m.from = number(0, 599);
                need("to");
                m.to = number(m.from, 599);
                if (opt("ward")) m.ward = number(0, all.wards.size() - 1);
                if (opt("unless")) m.kind = kind();
                if (opt("chance")) m.chance = number(1, 100);
                need(";");
                out.add(m);
            }
            return out;
        }

        List<Order> orders() {
            List<Order> out = new ArrayList<>();
            while (see().equals("go") || see().equals("wait") || KINDS.contains(see())) {
                if (out.size() == 40) throw fault(3);
                if (opt("go")) out.add(new Order(10, place()));
                else if (opt("wait")) out.add(new Order(11, number(1, 60)));
                else out.add(new Order(kind(), 0));
                need(";");
            }
            return out;
        }

        List<Line> law() {
            List<Line> out = new ArrayList<>();
            while (see().equals("works") || see().equals("fails")) {
                if (out.size() == 16) throw fault(3);
                boolean works = see().equals("works");
                i++;
                Truth when = names -> true;
                if (opt("when")) when = b(0);
                need(";");
                out.add(new Line(works, when));
            }
            return out;
        }

        Truth b(int open) {
            Truth t = a(open);
            while (opt("or")) { Truth l = t, r = a(open); t = n -> l.of(n) || r.of(n); }
            return t;
        }

        Truth a(int open) {
            Truth t = c(open);
            while (opt("and")) { Truth l = t, r = c(open); t = n -> l.of(n) && r.of(n); }
            return t;
        }

        Truth c(int open) {
            if ((see().equals("not") || see().equals("(")) && open == 8) throw fault(3);
            if (opt("not")) { Truth t = c(open + 1); return n -> !t.of(n); }
            if (opt("(")) { Truth t = b(open + 1); need(")"); return t; }
            Value l = e();
            String sign = see();
            if (!Set.of("<", "=", ">").contains(sign)) throw fault(1);
            i++;
            Value r = e();
            return sign.equals("<") ? n -> l.of(n) < r.of(n) : sign.equals("=") ? n -> l.of(n) == r.of(n) : n -> l.of(n) > r.of(n);
        }

        Value e() {
            Value v = t();
            while (see().equals("+") || see().equals("-")) {
                boolean plus = tokens.get(i++).equals("+");
                Value l = v, r = t();
                v = plus ? n -> l.of(n) + r.of(n) : n -> l.of(n) - r.of(n);
            }
            return v;
        }

        Value t() {
            Value v = u();
            while (see().equals("*") || see().equals("/")) {
                Value l = v;
                if (opt("*")) { Value r = u(); v = n -> l.of(n) * r.of(n); }
                else { i++; int d = number(1, 9999); v = n -> l.of(n) / d; }
            }
            return v;
        }

        Value u() {
            if (isNumber()) { int v = number(0, 9999); return n -> v; }
            String name = see();
            if (!Set.of("kind", "second", "x", "y", "wards", "spoilt", "angel", "done", "pace").contains(name)) throw fault(1);
            i++;
            return n -> n.get(name);
        }

        void whole() { if (i != tokens.size() - 1) throw fault(1); }
    }

    int text(int k, int who) {
        fault = 0;
        faultPlace = NONE;
        Text t = new Text(tape);
        int length = tape.length();
        tape = "";
        try {
            if (k == 0 && who >= 0 && who < all.wards.size()) {
                List<String> way = t.steps(0);
                t.whole();
                if (way.size() > 600) throw new Fault(4, length);
                Ward x = all.wards.get(who);
                x.way = way; x.taken = 0; x.still = 0;
                past.clear();
                return way.size();
            }
            if (k == 1) {
                List<Mishap> m = t.mishaps();
                t.whole();
                all.mishaps = m;
                past.clear();
                return m.size();
            }
            if (k == 2 && who >= 0 && who < all.angels.size()) {
                List<Order> plan = t.orders();
                t.whole();
                Angel x = all.angels.get(who);
                x.plan = plan; x.taken = 0; x.busy = 0; x.goal = NONE;
                past.clear();
                return plan.size();
            }
            if (k == 3) {
                List<Line> law = t.law();
                t.whole();
                all.law = law;
                for (All p : past) p.law = law;
                return law.size();
            }
        } catch (Fault f) {
            fault = f.which;
            faultPlace = f.place;
        }
        return NONE;
    }

    int fault(int what) { return what == 0 ? fault : what == 1 ? faultPlace : NONE; }

    // ---- a second

    static int steps(int p, int q) { return Math.abs(p % 8 - q % 8) + Math.abs(p / 8 - q / 8); }

    static boolean works(All s, int a, int kind) {
        Angel x = s.angels.get(a);
        boolean spoilt = s.others.stream().anyMatch(o -> o.place == x.place && o.from <= s.second && s.second <= o.to);
        Map<String, Integer> names = Map.of("kind", kind, "second", s.second, "x", x.place % 8, "y", x.place / 8,
            "wards", (int) s.wards.stream().filter(w -> w.place == x.place).count(), "spoilt", spoilt ? 1 : 0,
            "angel", a, "done", x.done, "pace", x.pace);
        for (Line l : s.law) if (l.when.of(names)) return l.works;
        return !spoilt;
    }

    static void angelMoves(All s, int a) {
        Angel x = s.angels.get(a);
        if (x.busy > 0) {
            x.busy--;
            if (x.busy == 0 && x.goal != NONE) { x.place = x.goal; x.goal = NONE; }
            return;
        }
        while (x.taken < x.plan.size()) {
            Order o = x.plan.get(x.taken++);
            if (o.what < 5) {
                boolean worked = works(s, a, o.what);
                x.done++;
                if (worked) for (Ward w : s.wards) if (w.place == x.place) w.still = Math.min(99, w.still + s.pause[o.what]);
                if (s.book.size() < 100) s.book.add(new Doing(s.second, a, o.what, x.place, worked));
                return;
            }
            int time = o.what == 10 ? steps(x.place, o.value) * x.pace : o.value;
            if (time == 0) continue;
            x.busy = time - 1;
            x.goal = o.what == 10 ? o.value : NONE;
            if (x.busy == 0 && x.goal != NONE) { x.place = x.goal; x.goal = NONE; }
            return;
        }
    }

    static void wardMoves(All s, Ward w) {
        if (w.still > 0) { w.still--; return; }
        if (w.taken == w.way.size()) return;
        String t = w.way.get(w.taken++);
        int x = w.place % 8 + (t.equals("east") ? 1 : t.equals("west") ? -1 : 0);
        int y = w.place / 8 + (t.equals("south") ? 1 : t.equals("north") ? -1 : 0);
        if (x >= 0 && x < s.w && y >= 0 && y < s.h) w.place = 8 * y + x;
    }

    static int draw(All s, int m) {
        s.state = 1664525 * s.state + 1013904223;
        return (s.state >>> 8) % m;
    }

    static int second(All s, boolean thought) {
        for (int a = 0; a < s.angels.size(); a++) angelMoves(s, a);
        for (Ward w : s.wards) wardMoves(s, w);
        int came = 0;
        for (Mishap m : s.mishaps) {
            if (m.over != 0 || s.second < m.from || s.second > m.to) continue;
            boolean there = false;
            for (int w = 0; w < s.wards.size(); w++) there |= (m.ward == NONE || m.ward == w) && s.wards.get(w).place == m.place;
            if (!there) continue;
            came++;
            m.came = s.second;
            for (int l = 0; l < s.book.size(); l++) {
                Doing d = s.book.get(l);
                if (d.worked && d.place == m.place && (m.kind == NONE || m.kind == d.kind) && d.second >= s.second - s.guard) m.line = l;
            }
            if (m.line != NONE) m.over = 1;
            else if (thought || m.chance == 100) m.over = 2;
            else m.over = draw(s, 100) < m.chance ? 2 : 3;
        }
        s.second++;
        return came;
    }

    int seconds(int n) {
        if (n < 1 || n > 60 || all.second + n > 600) return NONE;
        int came = 0;
        for (int i = 0; i < n; i++) {
            past.add(all.copy());
            if (past.size() > 6) past.remove(0);
            came += second(all, false);
        }
        return came;
    }

    // ---- asked

    int of(int ward, int what) {
        if (ward < 0 || ward >= all.wards.size()) return NONE;
        Ward w = all.wards.get(ward);
        return what == 0 ? w.place : what == 1 ? w.still : what == 2 ? w.way.size() - w.taken : NONE;
    }

    int at(int angel, int what) {
        if (angel < 0 || angel >= all.angels.size()) return NONE;
        Angel a = all.angels.get(angel);
        switch (what) {
            case 0: return a.place;
            case 1: return a.pace;
            case 2: return a.busy;
            case 3: return a.done;
            case 4: return a.plan.size() - a.taken;
            case 5: return best(everybody() & ~(1 << angel)).left - best(everybody()).left;
            case 6: return waitOf(a);
            default: return NONE;
        }
    }

    int mishap(int i, int what) {
        if (i < 0 || i >= all.mishaps.size() || what < 0 || what > 10) return -2;
        Mishap m = all.mishaps.get(i);
        if (what == 8 && m.over == 0) return foreseen()[i];
        if (what == 10) return could(i);
        return new int[] {m.harm, m.place, m.from, m.to, m.ward, m.kind, m.chance, m.over, m.came, m.line}[what];
    }

    int book(int i, int what) {
        if (i < 0 || i >= all.book.size() || what < 0 || what > 5) return NONE;
        Doing d = all.book.get(i);
        int set = 0;
        for (int m = 0; m < all.mishaps.size(); m++) if (all.mishaps.get(m).line == i) set |= 1 << m;
        return new int[] {d.second, d.angel, d.kind, d.place, d.worked ? 1 : 0, set}[what];
    }

    int planned(int what) {
        All s = all.copy();
        while (s.second < 600) second(s, true);
        int risk = 0, averted = 0;
        for (int i = 0; i < s.mishaps.size(); i++) {
            if (all.mishaps.get(i).over != 0) continue;
            Mishap m = s.mishaps.get(i);
            if (m.over == 1) averted++;
            if (m.over == 2) risk += m.risk();
        }
        return what == 0 ? risk : what == 1 ? averted : NONE;
    }

    int[] foreseen() {
        All s = all.copy();
        for (Angel a : s.angels) { a.plan = List.of(); a.taken = 0; a.busy = 0; }
        while (s.second < 600) second(s, true);
        int[] out = new int[s.mishaps.size()];
        for (int i = 0; i < out.length; i++) out[i] = all.mishaps.get(i).over == 0 ? s.mishaps.get(i).came : NONE;
        return out;
    }

    int everybody() { return (1 << all.angels.size()) - 1; }

    /** Whether an angel who is at a place in a second sees to all of a set in some order. */
    boolean sees(Angel a, int place, int second, int set, int[] foreseen) {
        if (set == 0) return true;
        for (int i = 0; i < foreseen.length; i++) {
            if ((set >> i & 1) == 0) continue;
            int there = second + steps(place, all.mishaps.get(i).place) * a.pace;
            // every second in which the doing could be, the first one being as good as any later one
            for (int d = Math.max(all.second, foreseen[i] - all.guard); d <= foreseen[i]; d++) {
                if (d < there) continue;
                if (sees(a, all.mishaps.get(i).place, d + 1, set & ~(1 << i), foreseen)) return true;
                break;
            }
        }
        return false;
    }

    static final class Way {
        int left = Integer.MAX_VALUE;
        int[] sets;
    }

    Way best(int group) {
        int[] f = foreseen();
        int open = 0;
        for (int i = 0; i < f.length; i++) if (f[i] != NONE) open |= 1 << i;
        Map<Integer, Boolean> memo = new java.util.HashMap<>();
        Way best = new Way();
        choose(group, 0, open, new int[all.angels.size()], f, best, memo);
        return best;
    }

    private void choose(int group, int a, int open, int[] sets, int[] f, Way best, Map<Integer, Boolean> memo) {
        if (a == all.angels.size()) {
            int left = 0;
            for (int i = 0; i < f.length; i++) if ((open >> i & 1) != 0) left += all.mishaps.get(i).risk();
            if (left < best.left) { best.left = left; best.sets = sets.clone(); }
            return;
        }
        for (int s = 0; s <= open; s++) {
            if ((s & ~open) != 0 || s != 0 && (group >> a & 1) == 0) continue;
            int set = s;
            Angel x = all.angels.get(a);
            if (!memo.computeIfAbsent(a << 10 | s, key -> sees(x, x.place, all.second, set, f))) continue;
            sets[a] = s;
            choose(group, a + 1, open & ~s, sets, f, best, memo);
        }
        sets[a] = 0;
    }

    int least(int what) {
        if (what == 0) return best(everybody()).left;
        if (what != 1 && (what < 10 || what >= 10 + all.angels.size())) return NONE;
        int[] sets = best(everybody()).sets;
        if (what >= 10) return sets[what - 10];
        int left = 0;
        int[] f = foreseen();
        for (int i = 0; i < f.length; i++) if (f[i] != NONE) left |= 1 << i;
        for (int s : sets) left &= ~s;
        return left;
    }

    int fewest(int what) {
        if (what != 0 && what != 1) return NONE;
        int least = best(everybody()).left, size = 99, set = 0;
        for (int g = 0; g <= everybody(); g++) {
            if (Integer.bitCount(g) < size && best(g).left == least) { size = Integer.bitCount(g); set = g; }
        }
        return what == 0 ? size : set;
    }

    int could(int i) {
        int[] f = foreseen();
        int set = 0;
        for (int a = 0; f[i] != NONE && a < all.angels.size(); a++) {
            Angel x = all.angels.get(a);
            if (sees(x, x.place, all.second, 1 << i, f)) set |= 1 << a;
        }
        return set;
    }

    int byHowMany(int n) {
        int[] f = foreseen();
        int set = 0;
        for (int i = 0; i < f.length; i++) if (f[i] != NONE && Integer.bitCount(could(i)) == n) set |= 1 << i;
        return set;
    }

    int hopeless() { return byHowMany(0); }

    int shows() { return byHowMany(1); }

    int waitOf(Angel a) {
        int[] f = foreseen();
        int best = NONE, most = -1;
        for (int p = 0; p < 64; p++) {
            if (!all.isPlace(p)) continue;
            int sum = 0;
            for (int i = 0; i < f.length; i++) {
                if (f[i] != NONE && all.mishaps.get(i).place == p && all.second + steps(a.place, p) * a.pace <= f[i]) sum += all.mishaps.get(i).risk();
            }
            if (sum > most) { most = sum; best = p; }
        }
        return best;
    }

    long lot(int set, int what) {
        if (set <= 0 || set >= 1 << all.mishaps.size() || Integer.bitCount(set) > 6 || what != 0 && what != 1) return NONE;
        List<Integer> harms = new ArrayList<>();
        for (int i = 0; i < all.mishaps.size(); i++) if ((set >> i & 1) != 0) harms.add(all.mishaps.get(i).harm);
        harms.sort(Collections.reverseOrder());
        BigInteger up = BigInteger.ZERO, down = BigInteger.ONE;
        for (int m = 1; m <= harms.size(); m++) {
            BigInteger product = BigInteger.ONE, sum = BigInteger.ZERO;
            for (int j = 0; j < m; j++) product = product.multiply(BigInteger.valueOf(harms.get(j)));
            for (int j = 0; j < m; j++) sum = sum.add(product.divide(BigInteger.valueOf(harms.get(j))));
            BigInteger u = product.multiply(BigInteger.valueOf(m - 1));
            if (u.multiply(down).compareTo(up.multiply(sum)) > 0) { up = u; down = sum; }
        }
        BigInteger g = up.gcd(down);
        return (what == 0 ? up : down).divide(g).longValueExact();
    }

    int near(int a, int b, int what) {
        int n = all.wards.size();
        if (a < 0 || a >= n || b < 0 || b >= n || a == b || what != 0 && what != 1) return NONE;
        for (int k = 0; k <= 60; k++) {
            All s = all.copy();
            s.wards.get(a).still += k;
            for (int t = s.second; t < 600; t++) {
                for (Ward w : s.wards) wardMoves(s, w);
                if (s.wards.get(a).place == s.wards.get(b).place) return what == 0 ? k : t;
            }
        }
        return NONE;
    }

    boolean undo() {
        if (past.isEmpty()) return false;
        all = past.remove(past.size() - 1);
        return true;
    }

    boolean image(boolean taken) {
        if (taken) { picture = all.copy(); return true; }
        if (picture == null) return false;
        all = picture.copy();
        past.clear();
        return true;
    }

    int look(int what) {
        if (what >= 20 && what < 25) return all.pause[what - 20];
        if (what < 0 || what > 13) return NONE;
        int harm = 0, averted = 0;
        for (Mishap m : all.mishaps) { if (m.over == 2) harm += m.harm; if (m.over == 1) averted++; }
        return new int[] {all.w, all.h, all.second, all.wards.size(), all.angels.size(), all.others.size(), all.mishaps.size(),
            all.book.size(), all.law.size(), all.state, harm, averted, past.size(), all.guard}[what];
    }
}
