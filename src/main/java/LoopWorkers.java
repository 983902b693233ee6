/** Runs a counted loop on several workers when that makes no difference. */
public final class LoopWorkers {
    public static final int UNUSED = 0;
    public static final int SHARED = 1;
    public static final int LOCAL = 2;
    public static final int SUM = 3;
    public static final int MINIMUM = 4;
    public static final int CARRIED = 5;
    public static final int BAD = -1;
    public static final int FULL = -2;
    public static final int BUSY = -3;

    private static final int SET = 0;
    private static final int LOAD = 1;
    private static final int STORE = 2;
    private static final int PLUS = 3;
    private static final int LEAST = 4;
    private static final int INDEX = 5;
    private static final int NO_OP = -1;

    private static final int SCALARS = 4;
    private static final int CELLS = 16;
    private static final int MOST_STATEMENTS = 6;
    private static final int MOST_ITERATIONS = 8;
    private static final int MOST_WORKERS = 4;
    private static final int OWN_SCALARS = 16;
    private static final int MOST_FACTOR = 2;

    private final int iterations;
    private final int workers;

    private final int[] ops = new int[MOST_STATEMENTS];
    private final int[] xs = new int[MOST_STATEMENTS];
    private final int[] as = new int[MOST_STATEMENTS];
    private final int[] bs = new int[MOST_STATEMENTS];
    private int size;

    private final int[] scalars = new int[SCALARS];
    private final int[] cells = new int[CELLS];

    // A run works on copies, because until it ends the scalars and cells must
    // show what they were, and because it may be abandoned.
    private boolean running;
    private final int[] runCells = new int[CELLS];
    // Every worker has scalars of its own (worker w those from w * SCALARS on),
    // so that one worker's LOCAL values never meet another's.
    private final int[] ownScalars = new int[OWN_SCALARS];
    private final int[] iterationOf = new int[MOST_WORKERS];
    private final int[] placeOf = new int[MOST_WORKERS];
    private final int[] leftOf = new int[MOST_WORKERS];
    private int workerOfLastIteration;

    public LoopWorkers(int iterations, int workers) {
        this.iterations = clamp(iterations, 1, MOST_ITERATIONS);
        this.workers = clamp(workers, 1, MOST_WORKERS);
    }

    public int add(int op, int x, int a, int b) {
        if (running) {
            return BUSY;
        }
        if (!isStatement(op, x, a, b)) {
            return BAD;
        }
        if (size == MOST_STATEMENTS) {
            return FULL;
        }
        int place = size;
        ops[place] = op;
        xs[place] = x;
        as[place] = a;
        bs[place] = b;
        size = place + 1;
        return place;
    }

    public int drop() {
        if (running) {
            return BUSY;
        }
        if (size == 0) {
            return BAD;
        }
        size--;
        return size;
    }

    public int length() {
        return size;
    }

    public boolean setScalar(int x, int v) {
        if (running || !isScalar(x)) {
            return false;
        }
        scalars[x] = v;
        return true;
    }

    public boolean setCell(int k, int v) {
        if (running || !isCell(k)) {
            return false;
        }
        cells[k] = v;
        return true;
    }

    public int scalar(int x) {
        return isScalar(x) ? scalars[x] : 0;
    }

    public int cell(int k) {
        return isCell(k) ? cells[k] : 0;
    }

    public int role(int x) {
        return isScalar(x) ? roleOf(x) : BAD;
    }

    public boolean clash(int p, int q) {
        if (!isPlace(p) || !isPlace(q)) {
            return false;
        }
        if (!usesCell(ops[p]) || !usesCell(ops[q])) {
            return false;
        }
        if (ops[p] != STORE && ops[q] != STORE) {
            return false;
        }
        return meetAcrossIterations(p, q);
    }

    public boolean parallel() {
        return !anyCarried() && !anyClash();
    }

    public boolean start() {
        if (running) {
            return false;
        }
        if (size > 0) {
            boolean shared = parallel();
            copyState();
            shareOut(shared);
            running = true;
        }
        return true;
    }

    public int step(int w, int n) {
        if (!running || !isWorker(w)) {
            return 0;
        }
        int count = clamp(n, 0, leftOf[w]);
        carryOut(w, count);
        if (nothingLeft()) {
            endRun();
        }
        return count;
    }

    public int left(int w) {
        return running && isWorker(w) ? leftOf[w] : 0;
    }

    public boolean finish() {
        if (!running) {
            return false;
        }
        for (int w = 0; w < workers; w++) {
            carryOut(w, leftOf[w]);
        }
        endRun();
        return true;
    }

    public boolean abandon() {
        if (!running) {
            return false;
        }
        running = false;
        return true;
    }

    private static int clamp(int value, int least, int most) {
        if (value < least) {
            return least;
        }
        return value > most ? most : value;
    }

    private static boolean isScalar(int x) {
        return x >= 0 && x < SCALARS;
    }

    private static boolean isCell(int k) {
        return k >= 0 && k < CELLS;
    }

    private boolean isPlace(int p) {
        return p >= 0 && p < size;
    }

    private boolean isWorker(int w) {
        return w >= 0 && w < workers;
    }

    private static boolean usesCell(int op) {
        return op == LOAD || op == STORE;
    }

    private static boolean readsScalarA(int op) {
        return op == PLUS || op == LEAST;
    }

    private boolean isStatement(int op, int x, int a, int b) {
        if (op < SET || op > INDEX || !isScalar(x)) {
            return false;
        }
        if (usesCell(op)) {
            return staysInCells(a, b);
        }
        return !readsScalarA(op) || isScalar(a);
    }

    private boolean staysInCells(int a, int b) {
        if (a < -MOST_FACTOR || a > MOST_FACTOR || !isCell(b)) {
            return false;
        }
        // The cell moves one way only, and b is the first: so the last decides.
        int last = a * (iterations - 1) + b;
        return isCell(last);
    }

    private int cellOf(int p, int i) {
        return as[p] * i + bs[p];
    }

    private boolean mentions(int p, int x) {
        return xs[p] == x || (readsScalarA(ops[p]) && as[p] == x);
    }

    private boolean changes(int p, int x) {
        return xs[p] == x && ops[p] != STORE;
    }

    private boolean addsTo(int p, int x) {
        if (xs[p] != x) {
            return false;
        }
        return ops[p] == INDEX || (ops[p] == PLUS && as[p] != x);
    }

    private boolean lowers(int p, int x) {
        return xs[p] == x && ops[p] == LEAST && as[p] != x;
    }

    private int roleOf(int x) {
        int firstOp = NO_OP;
        boolean changed = false;
        boolean onlyAdded = true;
        boolean onlyLowered = true;
        for (int p = 0; p < size; p++) {
            if (mentions(p, x)) {
                firstOp = firstOp == NO_OP ? ops[p] : firstOp;
                changed = changes(p, x) || changed;
                onlyAdded = addsTo(p, x) && onlyAdded;
                onlyLowered = lowers(p, x) && onlyLowered;
            }
        }
        if (firstOp == NO_OP) {
            return UNUSED;
        }
        if (!changed) {
            return SHARED;
        }
        if (firstOp == SET || firstOp == LOAD) {
            return LOCAL;
        }
        if (onlyAdded) {
            return SUM;
        }
        return onlyLowered ? MINIMUM : CARRIED;
    }

    private boolean anyCarried() {
        for (int x = 0; x < SCALARS; x++) {
            if (roleOf(x) == CARRIED) {
                return true;
            }
        }
        return false;
    }

    private boolean anyClash() {
        for (int p = 0; p < size; p++) {
            // Clashing goes both ways, so each pair is looked at once.
            for (int q = p; q < size; q++) {
                if (clash(p, q)) {
                    return true;
                }
            }
        }
        return false;
    }

    private boolean meetAcrossIterations(int p, int q) {
        for (int i = 0; i < iterations; i++) {
            for (int j = 0; j < iterations; j++) {
                if (i != j && cellOf(p, i) == cellOf(q, j)) {
                    return true;
                }
            }
        }
        return false;
    }

    private void copyState() {
        for (int k = 0; k < CELLS; k++) {
            runCells[k] = cells[k];
        }
        for (int w = 0; w < workers; w++) {
            for (int x = 0; x < SCALARS; x++) {
                ownScalars[w * SCALARS + x] = scalars[x];
            }
        }
    }

    private void shareOut(boolean shared) {
        for (int w = 0; w < workers; w++) {
            int from = shared ? (w * iterations) / workers : 0;
            int to = shared ? ((w + 1) * iterations) / workers : iterations;
            boolean idle = !shared && w > 0;
            iterationOf[w] = from;
            placeOf[w] = 0;
            leftOf[w] = idle ? 0 : (to - from) * size;
        }
        workerOfLastIteration = shared ? workers - 1 : 0;
    }

    private void carryOut(int w, int count) {
        for (int k = 0; k < count; k++) {
            carryOutStatement(w, placeOf[w], iterationOf[w]);
            placeOf[w]++;
            if (placeOf[w] == size) {
                placeOf[w] = 0;
                iterationOf[w]++;
            }
        }
        leftOf[w] -= count;
    }

    private void carryOutStatement(int w, int p, int i) {
        int own = w * SCALARS;
        int x = own + xs[p];
        switch (ops[p]) {
            case SET:
                ownScalars[x] = as[p];
                break;
            case LOAD:
                ownScalars[x] = runCells[cellOf(p, i)];
                break;
            case STORE:
                runCells[cellOf(p, i)] = ownScalars[x];
                break;
            case PLUS:
                ownScalars[x] += ownScalars[own + as[p]];
                break;
            case LEAST:
                ownScalars[x] = lesser(ownScalars[x], ownScalars[own + as[p]]);
                break;
            default:
                ownScalars[x] += i;
                break;
        }
    }

    private static int lesser(int u, int v) {
        return u < v ? u : v;
    }

    private boolean nothingLeft() {
        for (int w = 0; w < workers; w++) {
            if (leftOf[w] > 0) {
                return false;
            }
        }
        return true;
    }

    private void endRun() {
        for (int k = 0; k < CELLS; k++) {
            cells[k] = runCells[k];
        }
        for (int x = 0; x < SCALARS; x++) {
            scalars[x] = broughtTogether(x);
        }
        running = false;
    }

    private int broughtTogether(int x) {
        int role = roleOf(x);
        if (role == SUM) {
            return sumOfAll(x);
        }
        if (role == MINIMUM) {
            return leastOfAll(x);
        }
        return ownScalars[workerOfLastIteration * SCALARS + x];
    }

    private int sumOfAll(int x) {
        int before = scalars[x];
        int sum = before;
        for (int w = 0; w < workers; w++) {
            // Every worker began with the value before the run, which counts once.
            sum += ownScalars[w * SCALARS + x] - before;
        }
        return sum;
    }

    private int leastOfAll(int x) {
        int least = scalars[x];
        for (int w = 0; w < workers; w++) {
            least = lesser(least, ownScalars[w * SCALARS + x]);
        }
        return least;
    }
}
