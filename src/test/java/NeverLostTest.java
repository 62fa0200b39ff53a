import java.util.Random;

/**
 * What was written is never lost: the truth of a line is always the value of the store that came last in the
 * order or at once, a read answers the truth as it was when it was ordered, and no two caches disagree.
 */
public final class NeverLostTest {
    private static final int WAITS = -5, CALLS = 512;
    private static int wrong = 0;

    private static void hold(boolean holds, int seed, String what) {
        if (!holds) {
            wrong++;
            System.out.println("seed " + seed + ": does not hold: " + what);
        }
    }

    private static void run(int seed) {
        Random r = new Random(seed);
        SplitWatch x = new SplitWatch();
        int cores = 2 + r.nextInt(3);
        int lines = 1 + r.nextInt(4);
        x.begin(cores, 1 + r.nextInt(3), 1 + r.nextInt(3), 1 + r.nextInt(5));
        int calls = 1;
        int[] truth = new int[lines];
        int[] storing = new int[cores];
        int[] reading = new int[cores];
        int ordered = 0;
        while (calls + 80 < CALLS) {
            int c = r.nextInt(cores);
            int l = r.nextInt(lines);
            int pick = r.nextInt(8);
            calls++;
            if (pick < 2) {
                int got = x.read(c, l);
                hold(got < 0 || got == truth[l], seed, "a hit reads the truth");
            } else if (pick < 4) {
                int v = 1 + r.nextInt(9999);
                int got = x.store(c, l, v);
                if (got == 0) {
                    truth[l] = v;
                } else if (got == WAITS) {
                    storing[c] = v;
                }
            } else if (pick == 4) {
                x.drop(c, l);
            } else {
                x.turn(1);
                calls += 4;
                int total = x.count(5);
                if (total != ordered) {
                    ordered = total;
                    int end = x.order(-1);
                    int who = x.order(end - 3) - '0';
                    int what = x.order(end - 1) - '0';
                    int kind = x.order(end - 2);
                    calls += 2;
                    if (kind == 'O' || kind == 'U' || kind == 'W') {
                        truth[what] = storing[who];
                    } else if (kind == 'R') {
                        reading[who] = truth[what] + 1;
                    }
                }
                for (int i = 0; i < cores; i++) {
                    calls++;
                    if (reading[i] > 0 && x.core(i, 1) == 0) {
                        calls++;
                        hold(x.core(i, 0) == reading[i] - 1, seed, "a read has the truth of its place in the order");
                        reading[i] = 0;
                    }
                }
            }
            calls++;
            hold(x.truth(l) == truth[l], seed, "the truth of line " + l + " is that of the last store");
        }
        check(x, seed, cores, lines);
    }

    private static void check(SplitWatch x, int seed, int cores, int lines) {
        for (int l = 0; l < lines; l++) {
            int sole = 0;
            int held = 0;
            for (int c = 0; c < cores; c++) {
                int state = x.cached(c, l, 0);
                held += state > 0 ? 1 : 0;
                sole += state > 1 ? 1 : 0;
                hold(state != 1 || x.cached(c, l, 1) == x.memory(l), seed, "a shared line is as memory");
            }
            hold(sole == 0 || held == 1, seed, "alone or changed in one cache only");
        }
    }

    public static void main(String[] args) {
        for (int seed = 0; seed < 3000 && wrong < 10; seed++) {
            run(seed);
        }
        System.out.println(wrong == 0 ? "nothing is lost" : wrong + " faults");
        if (wrong != 0) {
            System.exit(1);
        }
    }
}
