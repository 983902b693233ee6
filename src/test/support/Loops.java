/** Makes loops for the tests, and looks at all that a loop shows. */
public final class Loops {
    private static final int INDEX = 5;

    private Loops() {
    }

    /** A statement is {op, x, a, b}; every one of the body must be taken. */
    public static LoopWorkers with(int iterations, int workers, int[]... body) {
        LoopWorkers x = new LoopWorkers(iterations, workers);
        for (int p = 0; p < body.length; p++) {
            Check.due("add", x.add(body[p][0], body[p][1], body[p][2], body[p][3]), p);
        }
        return x;
    }

    /** A loop in which every worker has one statement for each of its iterations. */
    public static LoopWorkers counting(int iterations, int workers) {
        return with(iterations, workers, new int[] {INDEX, 0, 0, 0});
    }

    /** Sets every scalar and every cell to a number that no other of them has. */
    public static void fill(LoopWorkers x) {
        for (int s = 0; s < 4; s++) {
            Check.due("setScalar " + s, x.setScalar(s, 100 + s), true);
        }
        for (int k = 0; k < 16; k++) {
            Check.due("setCell " + k, x.setCell(k, k - 200), true);
        }
    }

    public static int[] filledScalars() {
        return new int[] {100, 101, 102, 103};
    }

    public static int[] filledCells() {
        int[] cells = new int[16];
        for (int k = 0; k < 16; k++) {
            cells[k] = k - 200;
        }
        return cells;
    }

    public static int[] scalars(LoopWorkers x) {
        return new int[] {x.scalar(0), x.scalar(1), x.scalar(2), x.scalar(3)};
    }

    public static int[] cells(LoopWorkers x) {
        int[] cells = new int[16];
        for (int k = 0; k < 16; k++) {
            cells[k] = x.cell(k);
        }
        return cells;
    }

    public static int[] roles(LoopWorkers x) {
        return new int[] {x.role(0), x.role(1), x.role(2), x.role(3)};
    }

    public static int[] lefts(LoopWorkers x) {
        return new int[] {x.left(0), x.left(1), x.left(2), x.left(3)};
    }

    /** All that can be seen without changing anything, in 66 calls. */
    public static int[] all(LoopWorkers x) {
        int[] seen = new int[66];
        int n = 0;
        seen[n++] = x.length();
        seen[n++] = x.parallel() ? 1 : 0;
        for (int[] some : new int[][] {scalars(x), cells(x), roles(x), lefts(x)}) {
            for (int v : some) {
                seen[n++] = v;
            }
        }
        for (int p = 0; p < 6; p++) {
            for (int q = 0; q < 6; q++) {
                seen[n++] = x.clash(p, q) ? 1 : 0;
            }
        }
        return seen;
    }

    public static void run(LoopWorkers x) {
        Check.due("start", x.start(), true);
        Check.due("finish", x.finish(), true);
    }
}
