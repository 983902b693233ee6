import java.util.ArrayList;
import java.util.List;
import java.util.Random;
import java.util.TreeSet;

/**
 * Long runs of calls, answered both by LoopWorkers and by a model that follows
 * the document's words without workers: it only counts what each worker has
 * left, and carries the loop out one iteration after the other when all is done.
 * The seeds are fixed, so that every time the same calls are made.
 */
public final class ModelTest {
    private static final int OBJECTS = 6000;
    private static final int CALLS = 512;

    private static final class Model {
        final int iterations;
        final int workers;
        final List<int[]> body = new ArrayList<>();
        int[] scalars = new int[4];
        int[] cells = new int[16];
        int[] left = null;

        Model(int iterations, int workers) {
            this.iterations = Math.min(8, Math.max(1, iterations));
            this.workers = Math.min(4, Math.max(1, workers));
        }

        static boolean in(int v, int least, int most) {
            return v >= least && v <= most;
        }

        int add(int op, int x, int a, int b) {
            if (left != null) {
                return LoopWorkers.BUSY;
            }
            if (!in(op, 0, 5) || !in(x, 0, 3)) {
                return LoopWorkers.BAD;
            }
            if (op == 1 || op == 2) {
                if (!in(a, -2, 2) || !in(b, 0, 15)) {
                    return LoopWorkers.BAD;
                }
                for (int i = 0; i < iterations; i++) {
                    if (!in(a * i + b, 0, 15)) {
                        return LoopWorkers.BAD;
                    }
                }
            }
            if ((op == 3 || op == 4) && !in(a, 0, 3)) {
                return LoopWorkers.BAD;
            }
            if (body.size() == 6) {
                return LoopWorkers.FULL;
            }
            body.add(new int[] {op, x, a, b});
            return body.size() - 1;
        }

        int drop() {
            if (left != null) {
                return LoopWorkers.BUSY;
            }
            if (body.isEmpty()) {
                return LoopWorkers.BAD;
            }
            body.remove(body.size() - 1);
            return body.size();
        }

        boolean setScalar(int x, int v) {
            if (left != null || !in(x, 0, 3)) {
                return false;
            }
            scalars[x] = v;
            return true;
        }

        boolean setCell(int k, int v) {
            if (left != null || !in(k, 0, 15)) {
                return false;
            }
            cells[k] = v;
            return true;
        }

        int scalar(int x) {
            return in(x, 0, 3) ? scalars[x] : 0;
        }

        int cell(int k) {
            return in(k, 0, 15) ? cells[k] : 0;
        }

        int role(int x) {
            if (!in(x, 0, 3)) {
                return LoopWorkers.BAD;
            }
            List<int[]> mentioning = body.stream()
                .filter(s -> s[1] == x || ((s[0] == 3 || s[0] == 4) && s[2] == x)).toList();
            if (mentioning.isEmpty()) {
                return LoopWorkers.UNUSED;
            }
            if (mentioning.stream().noneMatch(s -> s[1] == x && s[0] != 2)) {
                return LoopWorkers.SHARED;
            }
            if (mentioning.get(0)[0] <= 1) {
                return LoopWorkers.LOCAL;
            }
            if (mentioning.stream().allMatch(s -> s[0] == 5 || (s[0] == 3 && s[1] == x && s[2] != x))) {
                return LoopWorkers.SUM;
            }
            if (mentioning.stream().allMatch(s -> s[0] == 4 && s[1] == x && s[2] != x)) {
                return LoopWorkers.MINIMUM;
            }
            return LoopWorkers.CARRIED;
        }

        boolean clash(int p, int q) {
            if (!in(p, 0, body.size() - 1) || !in(q, 0, body.size() - 1)) {
                return false;
            }
            int[] s = body.get(p);
            int[] t = body.get(q);
            boolean bothCells = in(s[0], 1, 2) && in(t[0], 1, 2);
            if (!bothCells || (s[0] == 1 && t[0] == 1)) {
                return false;
            }
            for (int i = 0; i < iterations; i++) {
                TreeSet<Integer> others = new TreeSet<>();
                for (int j = 0; j < iterations; j++) {
                    if (j != i) {
                        others.add(t[2] * j + t[3]);
                    }
                }
                if (others.contains(s[2] * i + s[3])) {
                    return true;
                }
            }
            return false;
        }

        boolean parallel() {
            for (int x = 0; x < 4; x++) {
                if (role(x) == LoopWorkers.CARRIED) {
                    return false;
                }
            }
            for (int p = 0; p < body.size(); p++) {
                for (int q = 0; q < body.size(); q++) {
                    if (clash(p, q)) {
                        return false;
                    }
                }
            }
            return true;
        }

        boolean start() {
            if (left != null) {
                return false;
            }
            left = new int[workers];
            if (parallel()) {
                for (int w = 0; w < workers; w++) {
                    int from = (w * iterations) / workers;
                    int to = ((w + 1) * iterations) / workers - 1;
                    left[w] = (to - from + 1) * body.size();
                }
            } else {
                left[0] = iterations * body.size();
            }
            endIfDone();
            return true;
        }

        int step(int w, int n) {
            if (left == null || !in(w, 0, workers - 1)) {
                return 0;
            }
            int count = Math.min(Math.max(n, 0), left[w]);
            left[w] -= count;
            endIfDone();
            return count;
        }

        int left(int w) {
            return left == null || !in(w, 0, workers - 1) ? 0 : left[w];
        }

        boolean finish() {
            if (left == null) {
                return false;
            }
            left = new int[workers];
            endIfDone();
            return true;
        }

        boolean abandon() {
            boolean was = left != null;
            left = null;
            return was;
        }

        void endIfDone() {
            for (int n : left) {
                if (n > 0) {
                    return;
                }
            }
            left = null;
            PlainLoop.carryOut(body, iterations, scalars, cells);
        }
    }

    private static int sharedRuns = 0;
    private static int loneRuns = 0;

    public static void main(String[] args) {
        for (int seed = 1; seed <= OBJECTS && Check.wrong() < 20; seed++) {
            compare(seed, new Random(seed));
        }
        // A test that never came to either kind of run would say little.
        Check.due("many shared runs", sharedRuns > 1000, true);
        Check.due("many lone runs", loneRuns > 1000, true);
        System.out.println(sharedRuns + " runs on several workers, " + loneRuns + " on one");
        Check.end();
    }

    private static void compare(int seed, Random r) {
        int iterations = r.nextInt(11) - 1;
        int workers = r.nextInt(7) - 1;
        LoopWorkers x = new LoopWorkers(iterations, workers);
        Model m = new Model(iterations, workers);
        // Looking at everything after each call would use the 512 calls up.
        for (int n = 0; n < CALLS && Check.wrong() < 20; n++) {
            call(seed + ": call " + n + " ", x, m, r);
        }
    }

    private static void call(String at, LoopWorkers x, Model m, Random r) {
        int kind = r.nextInt(100);
        if (kind < 14) {
            add(at, x, m, r);
        } else if (kind < 20) {
            Check.due(at + "drop", x.drop(), m.drop());
        } else if (kind < 22) {
            Check.due(at + "length", x.length(), m.body.size());
        } else if (kind < 26) {
            int s = near(r, 4);
            int v = value(r);
            Check.due(at + "setScalar " + s, x.setScalar(s, v), m.setScalar(s, v));
        } else if (kind < 34) {
            int k = near(r, 16);
            int v = value(r);
            Check.due(at + "setCell " + k, x.setCell(k, v), m.setCell(k, v));
        } else if (kind < 42) {
            int s = near(r, 4);
            Check.due(at + "scalar " + s, x.scalar(s), m.scalar(s));
        } else if (kind < 52) {
            int k = near(r, 16);
            Check.due(at + "cell " + k, x.cell(k), m.cell(k));
        } else if (kind < 56) {
            int s = near(r, 4);
            Check.due(at + "role " + s, x.role(s), m.role(s));
        } else if (kind < 60) {
            int p = near(r, 6);
            int q = near(r, 6);
            Check.due(at + "clash " + p + " " + q, x.clash(p, q), m.clash(p, q));
        } else if (kind < 62) {
            Check.due(at + "parallel", x.parallel(), m.parallel());
        } else if (kind < 72) {
            start(at, x, m);
        } else if (kind < 90) {
            int w = near(r, 4);
            int n = r.nextInt(30) == 0 ? far(r) : r.nextInt(12) - 2;
            Check.due(at + "step " + w + " " + n, x.step(w, n), m.step(w, n));
        } else if (kind < 94) {
            int w = near(r, 4);
            Check.due(at + "left " + w, x.left(w), m.left(w));
        } else if (kind < 99) {
            Check.due(at + "finish", x.finish(), m.finish());
        } else {
            Check.due(at + "abandon", x.abandon(), m.abandon());
        }
    }

    private static void start(String at, LoopWorkers x, Model m) {
        boolean fresh = m.start();
        Check.due(at + "start", x.start(), fresh);
        if (fresh && m.left != null) {
            if (m.workers > 1 && m.iterations > 1 && m.parallel()) {
                sharedRuns++;
            } else {
                loneRuns++;
            }
        }
    }

    private static void add(String at, LoopWorkers x, Model m, Random r) {
        int op = near(r, 6);
        int s = near(r, 4);
        boolean cells = op == 1 || op == 2;
        int a = cells ? r.nextInt(7) - 3 : op == 0 ? value(r) : near(r, 4);
        int b = cells ? r.nextInt(18) - 1 : value(r);
        Check.due(at + "add " + op + " " + s + " " + a + " " + b, x.add(op, s, a, b), m.add(op, s, a, b));
    }

    /** Mostly 0 .. bound - 1, now and then just outside or far away. */
    private static int near(Random r, int bound) {
        int kind = r.nextInt(48);
        if (kind == 0) {
            return far(r);
        }
        return kind < 4 ? r.nextInt(bound + 4) - 2 : r.nextInt(bound);
    }

    private static int far(Random r) {
        return r.nextBoolean() ? Integer.MAX_VALUE - r.nextInt(3) : Integer.MIN_VALUE + r.nextInt(3);
    }

    private static int value(Random r) {
        return r.nextInt(3) == 0 ? r.nextInt() : r.nextInt(41) - 20;
    }
}
