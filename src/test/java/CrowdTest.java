import java.util.Arrays;
import java.util.Random;

/**
 * LEAST, FEWEST and WORTH in full towns, of up to ten mishaps and six angels, for which PlainTown is too slow: held
 * against a search that asks, angel by angel, how much the ones behind him save of what he leaves.
 */
public final class CrowdTest {
    private static final Check CHECK = new Check("CrowdTest");

    private final Random random;
    private final AngelTown x = new AngelTown();
    private final int[] places = new int[10];
    private final int[] comes = new int[10];
    private final int[] risks = new int[10];
    private int mishaps;
    private int guard;
    // Of each angel and set whether he sees to it.
    private final boolean[][] able = new boolean[6][1 << 10];
    // And the earliest second in which he is free at a place behind it; 0 if none is known.
    private final int[][][] earliest = new int[6][1 << 10][64];

    private CrowdTest(int run) {
        random = new Random(run * 104729L + 7);
    }

    public static void main(String[] args) {
        int runs = args.length > 0 ? Integer.parseInt(args[0]) : 60;
        int first = args.length > 1 ? Integer.parseInt(args[1]) : 0;
        for (int run = first; run < first + runs; run++) {
            new CrowdTest(run).go("run " + run);
        }
        CHECK.finish();
    }

    private void go(String run) {
        people();
        x.seconds(1 + random.nextInt(3));
        tellMishaps();
        for (int a = 0; a < x.look(4); a++) {
            Arrays.fill(able[a], false);
            goOn(a, x.at(a, 0), x.look(2), 0);
        }
        int angels = x.look(4);
        int everybody = (1 << angels) - 1;
        int[][] all = saved(everybody);
        int least = sum((1 << mishaps) - 1) - all[0][(1 << mishaps) - 1];
        int fewest = everybody;
        for (int group = 0; group <= everybody; group++) {
            boolean asWithAll = saved(group)[0][(1 << mishaps) - 1] == all[0][(1 << mishaps) - 1];
            if (asWithAll && Integer.bitCount(group) < Integer.bitCount(fewest)) {
                fewest = group;
            }
        }
        // Asked ahead of LEAST or behind it, FEWEST is the same.
        if (random.nextBoolean()) {
            CHECK.due(run + " fewest(1) first", x.fewest(1), fewest);
        }
        CHECK.due(run + " least(0)", x.least(0), least);
        waysAreTheFirst(run, all);
        CHECK.due(run + " fewest(0)", x.fewest(0), Integer.bitCount(fewest));
        CHECK.due(run + " fewest(1)", x.fewest(1), fewest);
        for (int a = 0; a < angels; a++) {
            int without = saved(everybody & ~(1 << a))[0][(1 << mishaps) - 1];
            CHECK.due(run + " worth of " + a, x.at(a, 5), all[0][(1 << mishaps) - 1] - without);
        }
    }

    private void people() {
        int side = 2 + random.nextInt(7);
        x.town(side, side);
        for (int w = 0; w < 8; w++) {
            x.ward(8 * random.nextInt(side) + random.nextInt(side));
        }
        int slowest = 1 + random.nextInt(9);
        for (int a = random.nextInt(4) == 0 ? random.nextInt(7) : 6; a > 0; a--) {
            x.angel(8 * random.nextInt(side) + random.nextInt(side), 1 + random.nextInt(slowest));
        }
        guard = random.nextInt(10);
        x.set(0, 0, guard);
    }

    private void tellMishaps() {
        mishaps = random.nextInt(4) == 0 ? 1 + random.nextInt(10) : 10;
        int span = 1 + random.nextInt(60);
        int harms = 1 + random.nextInt(5);
        StringBuilder b = new StringBuilder();
        for (int i = 0; i < mishaps; i++) {
            int harm = 1 + random.nextInt(harms);
            int chance = random.nextInt(3) == 0 ? 50 : 100;
            places[i] = x.of(random.nextInt(8), 0);
            comes[i] = x.look(2) + random.nextInt(span);
            risks[i] = harm * chance;
            b.append("mishap ").append(harm).append(" at ").append(places[i]).append(" from ").append(comes[i]).append(" to ").append(comes[i]);
            b.append(chance < 100 ? " chance 50;" : ";");
        }
        CHECK.due("the mishaps are told", Check.tell(x, 1, 0, b.toString()), mishaps);
    }

    private int sum(int set) {
        int sum = 0;
        for (int i = 0; i < mishaps; i++) {
            sum += (set >> i & 1) * risks[i];
        }
        return sum;
    }

    /** Every order in which an angel could go on; what he can do as early already is not gone on with. */
    private void goOn(int a, int place, int second, int set) {
        if (earliest[a][set][place] != 0 && earliest[a][set][place] <= second) {
            return;
        }
        able[a][set] = true;
        earliest[a][set][place] = second;
        for (int i = 0; i < mishaps; i++) {
            int steps = Math.abs(place % 8 - places[i] % 8) + Math.abs(place / 8 - places[i] / 8);
            int doing = Math.max(second + steps * x.at(a, 1), comes[i] - guard);
            if ((set >> i & 1) == 0 && doing <= comes[i]) {
                goOn(a, places[i], doing + 1, set | 1 << i);
            }
        }
    }

    /** Of each angel and set of mishaps: the most risk of it that he and those behind him, if they are of the group, see to. */
    private int[][] saved(int group) {
        int angels = x.look(4);
        int[][] saved = new int[angels + 1][1 << mishaps];
        for (int a = angels - 1; a >= 0; a--) {
            for (int open = 0; open < 1 << mishaps; open++) {
                int most = saved[a + 1][open];
                for (int s = open; s > 0 && (group >> a & 1) != 0; s = s - 1 & open) {
                    if (able[a][s]) {
                        most = Math.max(most, sum(s) + saved[a + 1][open & ~s]);
                    }
                }
                saved[a][open] = most;
            }
        }
        return saved;
    }

    private void waysAreTheFirst(String run, int[][] saved) {
        int open = (1 << mishaps) - 1;
        for (int a = 0; a < x.look(4); a++) {
            int set = 0;
            while ((set & ~open) != 0 || !able[a][set] || sum(set) + saved[a + 1][open & ~set] != saved[a][open]) {
                set++;
            }
            CHECK.due(run + " what angel " + a + " sees to", x.least(10 + a), set);
            open &= ~set;
        }
        CHECK.due(run + " what is left", x.least(1), open);
        CHECK.due(run + " no such angel", x.least(10 + x.look(4)), AngelTown.NONE);
    }
}
