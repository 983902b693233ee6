/** Promises 1 to 4: a new object, add, drop, length. */
public final class BodyTest {
    private static final int SET = 0, LOAD = 1, STORE = 2, PLUS = 3, LEAST = 4, INDEX = 5;
    private static final int BAD = LoopWorkers.BAD, FULL = LoopWorkers.FULL, BUSY = LoopWorkers.BUSY;

    public static void main(String[] args) {
        newObject();
        clampedIterations();
        clampedWorkers();
        addAnswersPlaces();
        addRefusesWrongOpsAndScalars();
        addRefusesCellsOutside();
        addTakesAndRefusesEveryCell();
        addRefusesWrongSecondScalar();
        addIgnoresWhatIsNotUsed();
        addFirstThatApplies();
        addThatFailsChangesNothing();
        drop();
        Check.end();
    }

    private static void newObject() {
        LoopWorkers x = new LoopWorkers(5, 3);
        Check.due("new: length", x.length(), 0);
        for (int s = 0; s < 4; s++) {
            Check.due("new: scalar " + s, x.scalar(s), 0);
            Check.due("new: role " + s, x.role(s), LoopWorkers.UNUSED);
        }
        for (int k = 0; k < 16; k++) {
            Check.due("new: cell " + k, x.cell(k), 0);
        }
        Check.due("new: parallel", x.parallel(), true);
        Check.due("new: left", x.left(0), 0);
        Check.due("new: finish", x.finish(), false);
        Check.due("new: abandon", x.abandon(), false);
        Check.due("new: drop", x.drop(), BAD);
    }

    /** One worker and one statement: what is left is the number of iterations. */
    private static void clampedIterations() {
        int[][] cases = {{Integer.MIN_VALUE, 1}, {-1, 1}, {0, 1}, {1, 1}, {2, 2}, {5, 5}, {7, 7}, {8, 8}, {9, 8}, {Integer.MAX_VALUE, 8}};
        for (int[] c : cases) {
            LoopWorkers x = new LoopWorkers(c[0], 1);
            x.add(INDEX, 0, 0, 0);
            x.start();
            Check.due("iterations " + c[0], x.left(0), c[1]);
            x.finish();
            Check.due("sum of iterations " + c[0], x.scalar(0), c[1] * (c[1] - 1) / 2);
        }
    }

    /** Eight iterations: each of the workers there are has its share, the others none. */
    private static void clampedWorkers() {
        int[][] cases = {
            {Integer.MIN_VALUE, 8, 0, 0, 0}, {-1, 8, 0, 0, 0}, {0, 8, 0, 0, 0}, {1, 8, 0, 0, 0}, {2, 4, 4, 0, 0},
            {3, 2, 3, 3, 0}, {4, 2, 2, 2, 2}, {5, 2, 2, 2, 2}, {Integer.MAX_VALUE, 2, 2, 2, 2}};
        for (int[] c : cases) {
            LoopWorkers x = new LoopWorkers(8, c[0]);
            x.add(INDEX, 0, 0, 0);
            x.start();
            for (int w = 0; w < 4; w++) {
                Check.due("workers " + c[0] + ": left " + w, x.left(w), c[w + 1]);
            }
            Check.due("workers " + c[0] + ": left 4", x.left(4), 0);
        }
    }

    private static void addAnswersPlaces() {
        LoopWorkers x = new LoopWorkers(3, 2);
        int[][] statements = {{SET, 0, 9, 0}, {LOAD, 1, 2, 3}, {STORE, 2, -1, 4}, {PLUS, 3, 0, 0}, {LEAST, 0, 3, 0}, {INDEX, 1, 0, 0}};
        for (int p = 0; p < 6; p++) {
            int[] s = statements[p];
            Check.due("add: place", x.add(s[0], s[1], s[2], s[3]), p);
            Check.due("add: length", x.length(), p + 1);
        }
        Check.due("add: the seventh", x.add(SET, 0, 0, 0), FULL);
        Check.due("add: length when full", x.length(), 6);
    }

    private static void addRefusesWrongOpsAndScalars() {
        LoopWorkers x = new LoopWorkers(3, 2);
        for (int wrong : new int[] {Integer.MIN_VALUE, -1, 6, Integer.MAX_VALUE}) {
            Check.due("add: op " + wrong, x.add(wrong, 0, 0, 0), BAD);
        }
        for (int op = SET; op <= INDEX; op++) {
            for (int wrong : new int[] {Integer.MIN_VALUE, -1, 4, Integer.MAX_VALUE}) {
                Check.due("add: op " + op + " x " + wrong, x.add(op, wrong, 0, 0), BAD);
            }
        }
        Check.due("add: length after wrong ones", x.length(), 0);
    }

    private static void addRefusesCellsOutside() {
        LoopWorkers one = new LoopWorkers(1, 1);
        int min = Integer.MIN_VALUE, max = Integer.MAX_VALUE;
        int[][] wrong = {{-3, 8}, {3, 8}, {min, 8}, {max, 8}, {0, -1}, {0, 16}, {0, min}, {0, max}, {1, -1}, {-1, 16}, {max, max}, {min, min}};
        for (int[] ab : wrong) {
            Check.due("add: LOAD " + ab[0] + " " + ab[1], one.add(LOAD, 0, ab[0], ab[1]), BAD);
            Check.due("add: STORE " + ab[0] + " " + ab[1], one.add(STORE, 0, ab[0], ab[1]), BAD);
        }
        Check.due("add: length after cells outside", one.length(), 0);
    }

    private static void addTakesAndRefusesEveryCell() {
        for (int iterations = 1; iterations <= 8; iterations++) {
            for (int a = -4; a <= 4; a++) {
                for (int b = -3; b <= 19; b++) {
                    boolean fits = a >= -2 && a <= 2 && b >= 0 && b <= 15;
                    for (int i = 0; i < iterations; i++) {
                        fits = fits && a * i + b >= 0 && a * i + b <= 15;
                    }
                    for (int op = LOAD; op <= STORE; op++) {
                        LoopWorkers x = new LoopWorkers(iterations, 1);
                        String what = "add: " + iterations + " iterations, op " + op + " " + a + " " + b;
                        Check.due(what, x.add(op, 3, a, b), fits ? 0 : BAD);
                        Check.due(what + ": length", x.length(), fits ? 1 : 0);
                    }
                }
            }
        }
    }

    private static void addRefusesWrongSecondScalar() {
        for (int op = PLUS; op <= LEAST; op++) {
            LoopWorkers x = new LoopWorkers(3, 2);
            for (int wrong : new int[] {Integer.MIN_VALUE, -1, 4, Integer.MAX_VALUE}) {
                Check.due("add: op " + op + " a " + wrong, x.add(op, 0, wrong, 0), BAD);
            }
            for (int a = 0; a < 4; a++) {
                Check.due("add: op " + op + " a " + a, x.add(op, 0, a, 99), a);
            }
        }
    }

    private static void addIgnoresWhatIsNotUsed() {
        LoopWorkers x = new LoopWorkers(3, 2);
        Check.due("add: SET any a, b", x.add(SET, 0, Integer.MIN_VALUE, Integer.MAX_VALUE), 0);
        Check.due("add: PLUS any b", x.add(PLUS, 1, 3, Integer.MIN_VALUE), 1);
        Check.due("add: LEAST any b", x.add(LEAST, 2, 3, -1), 2);
        Check.due("add: INDEX any a, b", x.add(INDEX, 1, 77, -77), 3);
    }

    private static void addFirstThatApplies() {
        LoopWorkers x = new LoopWorkers(3, 2);
        for (int p = 0; p < 6; p++) {
            x.add(INDEX, 0, 0, 0);
        }
        Check.due("add: wrong op before FULL", x.add(6, 0, 0, 0), BAD);
        Check.due("add: wrong x before FULL", x.add(SET, 4, 0, 0), BAD);
        Check.due("add: wrong cell before FULL", x.add(LOAD, 0, 2, 12), BAD);
        Check.due("add: wrong a before FULL", x.add(PLUS, 0, 4, 0), BAD);
        Check.due("add: FULL", x.add(INDEX, 0, 0, 0), FULL);
        x.start();
        Check.due("add: BUSY before FULL", x.add(INDEX, 0, 0, 0), BUSY);
        Check.due("add: BUSY before BAD op", x.add(-1, 0, 0, 0), BUSY);
        Check.due("add: BUSY before BAD x", x.add(SET, -1, 0, 0), BUSY);
        Check.due("add: BUSY before BAD cell", x.add(STORE, 0, 0, 16), BUSY);
        Check.due("add: BUSY before BAD a", x.add(LEAST, 0, -1, 0), BUSY);
        Check.due("add: length while busy", x.length(), 6);
        x.abandon();
        Check.due("add: FULL again after the run", x.add(INDEX, 0, 0, 0), FULL);
    }

    private static void addThatFailsChangesNothing() {
        LoopWorkers x = new LoopWorkers(2, 1);
        x.add(SET, 0, 5, 0);
        x.add(STORE, 0, 1, 0);
        x.add(STORE, 7, 1, 4);
        x.add(PLUS, 1, 9, 0);
        x.start();
        x.add(SET, 0, 6, 0);
        Check.due("add: left after refusals", x.left(0), 4);
        x.finish();
        Check.due("add: scalar 0 after refusals", x.scalar(0), 5);
        Check.due("add: cell 1 after refusals", x.cell(1), 5);
        Check.due("add: cell 4 after refusals", x.cell(4), 0);
        for (int p = 2; p < 6; p++) {
            x.add(INDEX, 1, 0, 0);
        }
        Check.due("add: full", x.add(SET, 0, 8, 0), FULL);
        x.start();
        x.finish();
        Check.due("add: scalar 0 after FULL", x.scalar(0), 5);
        Check.due("add: scalar 1 after FULL", x.scalar(1), 4);
    }

    private static void drop() {
        LoopWorkers x = new LoopWorkers(1, 1);
        Check.due("drop: of none", x.drop(), BAD);
        Check.due("drop: of none, length", x.length(), 0);
        for (int p = 0; p < 6; p++) {
            x.add(SET, 0, p + 1, 0);
        }
        for (int rest = 5; rest >= 1; rest--) {
            Check.due("drop: how many are left", x.drop(), rest);
            Check.due("drop: length", x.length(), rest);
            x.start();
            Check.due("drop: while a run is under way", x.drop(), BUSY);
            Check.due("drop: length while a run is under way", x.length(), rest);
            x.finish();
            Check.due("drop: the last one was taken", x.scalar(0), rest);
        }
        Check.due("drop: the only one", x.drop(), 0);
        Check.due("drop: one too many", x.drop(), BAD);
        Check.due("drop: add again", x.add(PLUS, 1, 0, 0), 0);
        Check.due("drop: role of a dropped scalar", x.role(0), LoopWorkers.SHARED);
    }
}
