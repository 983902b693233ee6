/** A test for every sentence of promises 9 to 11 (role, clash, parallel). */
public final class AnalysisTest {
    private static final int SET = 0, LOAD = 1, STORE = 2, PLUS = 3, LEAST = 4, INDEX = 5;
    private static final int UNUSED = LoopWorkers.UNUSED, SHARED = LoopWorkers.SHARED, LOCAL = LoopWorkers.LOCAL;
    private static final int SUM = LoopWorkers.SUM, MINIMUM = LoopWorkers.MINIMUM, CARRIED = LoopWorkers.CARRIED;
    private static final int BAD = LoopWorkers.BAD;
    private static final int MIN = Integer.MIN_VALUE, MAX = Integer.MAX_VALUE;
    private static final int[] NO_SCALARS = {MIN, MIN + 1, -4, -1, 4, 5, 256, MAX};

    public static void main(String[] args) {
        roles();
        roleOutside();
        roleOutsideInARun();
        roleOfDroppedStatements();
        roleInARun();
        clashesByKind();
        everyClash();
        clashOutsideAnEmptyBody();
        clashOutsideEveryBody();
        clashOfDroppedStatements();
        clashInARun();
        parallelBodies();
        parallelFollowsTheBody();
        parallelInARun();
        parallelWhateverTheWorkers();
        Check.end();
    }

    /** Statements are {op, x, a, b}; the last four numbers are the roles of scalars 0 .. 3. */
    private static void roles() {
        Check.sentence("Promise 9", "The role of scalar x");
        role("empty", new int[][] {}, UNUSED, UNUSED, UNUSED, UNUSED);
        role("a of SET, LOAD, STORE, INDEX is no mention",
            new int[][] {{SET, 0, 1, 1}, {LOAD, 0, 1, 2}, {STORE, 0, 1, 3}, {INDEX, 0, 1, 3}}, LOCAL, UNUSED, UNUSED, UNUSED);
        role("b is no mention", new int[][] {{PLUS, 0, 1, 2}, {LEAST, 3, 1, 2}}, SUM, SHARED, UNUSED, MINIMUM);
        role("STORE alone", new int[][] {{STORE, 2, 1, 0}}, UNUSED, UNUSED, SHARED, UNUSED);
        role("read by PLUS and LEAST and STORE",
            new int[][] {{PLUS, 0, 3, 0}, {LEAST, 1, 3, 0}, {STORE, 3, 1, 0}}, SUM, MINIMUM, UNUSED, SHARED);
        role("SET", new int[][] {{SET, 1, 4, 0}}, UNUSED, LOCAL, UNUSED, UNUSED);
        role("LOAD", new int[][] {{LOAD, 1, 1, 4}}, UNUSED, LOCAL, UNUSED, UNUSED);
        role("SET first, then anything",
            new int[][] {{SET, 1, 4, 0}, {PLUS, 1, 1, 0}, {LEAST, 1, 1, 0}, {INDEX, 1, 0, 0}, {STORE, 1, 1, 0}, {LOAD, 1, 1, 0}},
            UNUSED, LOCAL, UNUSED, UNUSED);
        role("SET after STORE", new int[][] {{STORE, 1, 1, 4}, {SET, 1, 4, 0}}, UNUSED, CARRIED, UNUSED, UNUSED);
        role("SET after being read", new int[][] {{PLUS, 0, 1, 0}, {SET, 1, 4, 0}}, SUM, CARRIED, UNUSED, UNUSED);
        role("LOAD after INDEX", new int[][] {{INDEX, 0, 0, 0}, {LOAD, 0, 1, 0}}, CARRIED, UNUSED, UNUSED, UNUSED);
        role("SET after PLUS of it", new int[][] {{PLUS, 0, 1, 0}, {SET, 0, 4, 0}}, CARRIED, SHARED, UNUSED, UNUSED);
        role("SET after LEAST of it", new int[][] {{LEAST, 0, 1, 0}, {SET, 0, 4, 0}}, CARRIED, SHARED, UNUSED, UNUSED);
        role("PLUS and INDEX", new int[][] {{PLUS, 2, 0, 0}, {INDEX, 2, 2, 2}, {PLUS, 2, 1, 0}}, SHARED, SHARED, SUM, UNUSED);
        role("INDEX alone", new int[][] {{INDEX, 2, 0, 0}}, UNUSED, UNUSED, SUM, UNUSED);
        role("PLUS of itself", new int[][] {{PLUS, 2, 2, 0}}, UNUSED, UNUSED, CARRIED, UNUSED);
        role("PLUS, then PLUS of itself", new int[][] {{PLUS, 2, 0, 0}, {PLUS, 2, 2, 0}}, SHARED, UNUSED, CARRIED, UNUSED);
        role("a sum that is stored", new int[][] {{PLUS, 2, 0, 0}, {STORE, 2, 1, 0}}, SHARED, UNUSED, CARRIED, UNUSED);
        role("a sum that is read by PLUS", new int[][] {{INDEX, 2, 0, 0}, {PLUS, 0, 2, 0}}, SUM, UNUSED, CARRIED, UNUSED);
        role("a sum that is read by LEAST", new int[][] {{INDEX, 2, 0, 0}, {LEAST, 0, 2, 0}}, MINIMUM, UNUSED, CARRIED, UNUSED);
        role("LEAST twice", new int[][] {{LEAST, 3, 0, 0}, {LEAST, 3, 1, 0}}, SHARED, SHARED, UNUSED, MINIMUM);
        role("LEAST of itself", new int[][] {{LEAST, 3, 3, 0}}, UNUSED, UNUSED, UNUSED, CARRIED);
        role("LEAST and PLUS", new int[][] {{LEAST, 3, 0, 0}, {PLUS, 3, 0, 0}}, SHARED, UNUSED, UNUSED, CARRIED);
        role("LEAST and INDEX", new int[][] {{LEAST, 3, 0, 0}, {INDEX, 3, 0, 0}}, SHARED, UNUSED, UNUSED, CARRIED);
        role("INDEX and LEAST", new int[][] {{INDEX, 3, 0, 0}, {LEAST, 3, 0, 0}}, SHARED, UNUSED, UNUSED, CARRIED);
        role("a minimum that is stored", new int[][] {{LEAST, 3, 0, 0}, {STORE, 3, 1, 0}}, SHARED, UNUSED, UNUSED, CARRIED);
        role("a minimum that is read", new int[][] {{LEAST, 3, 0, 0}, {LEAST, 1, 3, 0}}, SHARED, MINIMUM, UNUSED, CARRIED);
        role("each other", new int[][] {{PLUS, 0, 1, 0}, {PLUS, 1, 0, 0}}, CARRIED, CARRIED, UNUSED, UNUSED);
    }

    private static void role(String what, int[][] body, int... want) {
        LoopWorkers x = Loops.with(3, 2, body);
        for (int s = 0; s < 4; s++) {
            Check.due("role of " + s + ": " + what, x.role(s), want[s]);
        }
    }

    private static void roleOutside() {
        Check.sentence("Promise 9", "BAD when x is not 0 .. 3");
        LoopWorkers empty = new LoopWorkers(8, 4);
        LoopWorkers x = Loops.with(3, 2, new int[][] {{SET, 0, 0, 0}, {PLUS, 3, 0, 0}});
        for (int s : NO_SCALARS) {
            Check.due("role " + s + " in an empty body", empty.role(s), BAD);
            Check.due("role " + s, x.role(s), BAD);
        }
        Check.due("roles", Loops.roles(x), LOCAL, UNUSED, UNUSED, SUM);
    }

    private static void roleOutsideInARun() {
        Check.sentence("Promise 9", "BAD when x is not 0 .. 3");
        LoopWorkers x = Loops.counting(8, 4);
        x.start();
        for (int s : NO_SCALARS) {
            Check.due("role " + s + " in a run", x.role(s), BAD);
        }
    }

    private static void roleOfDroppedStatements() {
        Check.sentence("Promise 9", "The role of scalar x");
        LoopWorkers x = Loops.with(3, 2, new int[][] {{STORE, 0, 1, 0}, {INDEX, 0, 0, 0}});
        Check.due("with both", x.role(0), CARRIED);
        x.drop();
        Check.due("with the first", x.role(0), SHARED);
        x.drop();
        Check.due("with none", x.role(0), UNUSED);
        x.add(INDEX, 1, 0, 0);
        Check.due("beside another in its place", Loops.roles(x), UNUSED, SUM, UNUSED, UNUSED);
    }

    private static void roleInARun() {
        Check.sentence("Promise 9", "The role of scalar x");
        LoopWorkers x = Loops.with(8, 4, new int[][] {{LOAD, 0, 1, 0}, {PLUS, 1, 0, 0}, {LEAST, 2, 0, 0}, {STORE, 3, 1, 8}});
        int[] want = {LOCAL, SUM, MINIMUM, SHARED};
        Check.due("before the run", Loops.roles(x), want);
        x.start();
        x.step(0, 3);
        Check.due("in the run", Loops.roles(x), want);
        x.finish();
        Check.due("after the run", Loops.roles(x), want);
    }

    private static void clashesByKind() {
        Check.sentence("Promise 10", "Whether the statements p and q clash");
        int[][] kinds = {{SET, 0, 0, 3}, {LOAD, 0, 0, 3}, {STORE, 0, 0, 3}, {PLUS, 0, 0, 3}, {LEAST, 0, 0, 3}, {INDEX, 0, 0, 3}};
        LoopWorkers x = Loops.with(4, 2, kinds);
        for (int p = 0; p < 6; p++) {
            for (int q = 0; q < 6; q++) {
                boolean want = (p == STORE && (q == STORE || q == LOAD)) || (p == LOAD && q == STORE);
                Check.due("clash of op " + p + " and op " + q, x.clash(p, q), want);
            }
        }
    }

    /** All pairs of cells that add takes, against the cells written out. */
    private static void everyClash() {
        Check.sentence("Promise 10", "Whether the statements p and q clash");
        for (int iterations = 1; iterations <= 8; iterations++) {
            for (int a = -2; a <= 2; a++) {
                for (int b = 0; b < 16; b++) {
                    for (int c = -2; c <= 2; c++) {
                        for (int d = 0; d < 16; d++) {
                            clashOf(iterations, new int[] {a, b}, new int[] {c, d});
                        }
                    }
                }
            }
        }
    }

    private static void clashOf(int iterations, int[] left, int[] right) {
        LoopWorkers x = new LoopWorkers(iterations, 2);
        if (x.add(STORE, 0, left[0], left[1]) != 0 || x.add(LOAD, 1, right[0], right[1]) != 1) {
            return;
        }
        // For every cell the set of iterations that touch it, as bits.
        int[] byLeft = new int[16];
        int[] byRight = new int[16];
        for (int i = 0; i < iterations; i++) {
            byLeft[left[0] * i + left[1]] |= 1 << i;
            byRight[right[0] * i + right[1]] |= 1 << i;
        }
        boolean want = false;
        boolean self = false;
        for (int k = 0; k < 16; k++) {
            boolean both = byLeft[k] != 0 && byRight[k] != 0;
            want = want || (both && Integer.bitCount(byLeft[k] | byRight[k]) > 1);
            self = self || Integer.bitCount(byLeft[k]) > 1;
        }
        String what = iterations + " iterations, STORE " + left[0] + " " + left[1] + ", LOAD " + right[0] + " " + right[1];
        Check.due("clash(0, 1): " + what, x.clash(0, 1), want);
        Check.due("clash(1, 0): " + what, x.clash(1, 0), want);
        Check.due("clash(0, 0): " + what, x.clash(0, 0), self);
        Check.due("clash(1, 1): " + what, x.clash(1, 1), false);
        Check.due("parallel: " + what, x.parallel(), !want && !self);
    }

    private static void clashOutsideAnEmptyBody() {
        Check.sentence("Promise 10", "false when p or q is not 0 .. length() - 1");
        LoopWorkers x = new LoopWorkers(8, 4);
        for (int p = -1; p <= 6; p++) {
            for (int q = -1; q <= 6; q++) {
                Check.due("clash(" + p + ", " + q + ") of none", x.clash(p, q), false);
            }
        }
    }

    private static void clashOutsideEveryBody() {
        Check.sentence("Promise 10", "false when p or q is not 0 .. length() - 1");
        for (int size = 1; size <= 6; size++) {
            LoopWorkers x = new LoopWorkers(8, 4);
            for (int p = 0; p < size; p++) {
                x.add(STORE, 0, 0, 3);
            }
            for (int p = 0; p < size; p++) {
                for (int wrong : new int[] {MIN, -1, size, size + 1, 6, 7, MAX}) {
                    Check.due("clash(" + wrong + ", " + p + ") of " + size, x.clash(wrong, p), false);
                    Check.due("clash(" + p + ", " + wrong + ") of " + size, x.clash(p, wrong), false);
                    Check.due("clash(" + wrong + ", " + wrong + ") of " + size, x.clash(wrong, wrong), false);
                }
                Check.due("clash(0, " + p + ") of " + size, x.clash(0, p), true);
                Check.due("clash(" + p + ", " + (size - 1) + ") of " + size, x.clash(p, size - 1), true);
            }
        }
    }

    private static void clashOfDroppedStatements() {
        Check.sentence("Promise 10", "false when p or q is not 0 .. length() - 1");
        LoopWorkers x = Loops.with(4, 2, new int[][] {{STORE, 0, 0, 3}, {STORE, 0, 0, 3}});
        Check.due("clash(0, 1)", x.clash(0, 1), true);
        x.drop();
        Check.due("clash(0, 1) with 1 dropped", x.clash(0, 1), false);
        Check.due("clash(1, 0) with 1 dropped", x.clash(1, 0), false);
        Check.due("clash(1, 1) with 1 dropped", x.clash(1, 1), false);
        Check.due("clash(0, 0)", x.clash(0, 0), true);
        x.drop();
        Check.due("clash(0, 0) with 0 dropped", x.clash(0, 0), false);
    }

    private static void clashInARun() {
        Check.sentence("Promise 10", "Whether the statements p and q clash");
        LoopWorkers x = Loops.with(8, 4, new int[][] {{LOAD, 0, 1, 0}, {STORE, 0, 1, 8}, {STORE, 1, 1, 1}});
        x.start();
        x.step(0, 5);
        Check.due("clash(0, 2)", x.clash(0, 2), true);
        Check.due("clash(0, 1)", x.clash(0, 1), false);
        Check.due("clash(0, 3)", x.clash(0, 3), false);
        Check.due("clash(-1, 2)", x.clash(-1, 2), false);
    }

    private static void parallelBodies() {
        Check.sentence("Promise 11", "Whether the loop is PARALLEL");
        parallel("nothing", new int[][] {}, true);
        parallel("every role but CARRIED", new int[][] {{LOAD, 0, 1, 0}, {PLUS, 1, 0, 0}, {LEAST, 2, 0, 0}, {STORE, 3, 1, 8}}, true);
        parallel("CARRIED scalar 0", new int[][] {{PLUS, 0, 0, 0}}, false);
        parallel("CARRIED scalar 3", new int[][] {{SET, 0, 1, 0}, {LEAST, 3, 3, 0}}, false);
        parallel("loads of one cell", new int[][] {{LOAD, 0, 0, 3}, {LOAD, 1, 0, 3}}, true);
        parallel("a store into one cell", new int[][] {{STORE, 0, 0, 3}}, false);
        parallel("same cells in the same iteration", new int[][] {{LOAD, 0, 2, 1}, {STORE, 0, 2, 1}}, true);
        parallel("the cell of the iteration before", new int[][] {{LOAD, 0, 1, 0}, {STORE, 0, 1, 1}}, false);
        parallel("the cell of the iteration after", new int[][] {{LOAD, 0, 1, 1}, {STORE, 0, 1, 0}}, false);
        parallel("a clash of the last two only",
            new int[][] {{SET, 0, 1, 0}, {SET, 1, 1, 0}, {SET, 2, 1, 0}, {SET, 3, 1, 0}, {STORE, 0, 1, 0}, {STORE, 1, 1, 1}}, false);
        parallel("a clash of the first and last only",
            new int[][] {{LOAD, 0, 1, 1}, {SET, 1, 1, 0}, {SET, 2, 1, 0}, {SET, 3, 1, 0}, {SET, 3, 1, 0}, {STORE, 0, 1, 0}}, false);
    }

    private static void parallel(String what, int[][] body, boolean want) {
        LoopWorkers x = Loops.with(4, 2, body);
        Check.due("parallel: " + what, x.parallel(), want);
        if (body.length > 0) {
            x.start();
            Check.due("parallel: is the loop shared out: " + what, x.left(1) > 0, want);
            Check.due("parallel: in the run: " + what, x.parallel(), want);
        }
    }

    private static void parallelFollowsTheBody() {
        Check.sentence("Promise 11", "Whether the loop is PARALLEL");
        LoopWorkers x = new LoopWorkers(8, 4);
        Check.due("of none", x.parallel(), true);
        x.add(STORE, 0, 1, 0);
        Check.due("of a STORE", x.parallel(), true);
        x.add(LOAD, 1, 1, 1);
        Check.due("with a LOAD that clashes", x.parallel(), false);
        x.drop();
        Check.due("without it", x.parallel(), true);
        x.add(INDEX, 0, 0, 0);
        Check.due("with a scalar that is CARRIED", x.parallel(), false);
        x.drop();
        x.drop();
        Check.due("of none again", x.parallel(), true);
    }

    private static void parallelInARun() {
        Check.sentence("Promise 11", "Whether the loop is PARALLEL");
        int[][] bodies = {{INDEX, 0, 0, 0}, {PLUS, 0, 0, 0}, {STORE, 0, 0, 0}};
        for (int n = 0; n < 3; n++) {
            LoopWorkers x = Loops.with(8, 4, bodies[n]);
            x.start();
            Check.due("body " + n + " after the start", x.parallel(), n == 0);
            x.step(0, 1);
            Check.due("body " + n + " after a step", x.parallel(), n == 0);
            x.finish();
            Check.due("body " + n + " after the run", x.parallel(), n == 0);
        }
    }

    private static void parallelWhateverTheWorkers() {
        Check.sentence("Promise 11", "Whether the loop is PARALLEL");
        for (int workers = 1; workers <= 4; workers++) {
            Check.due("a SUM on " + workers, Loops.counting(8, workers).parallel(), true);
            Check.due("one iteration on " + workers, Loops.with(1, workers, new int[] {STORE, 0, 0, 0}).parallel(), true);
            Check.due("two iterations on " + workers, Loops.with(2, workers, new int[] {STORE, 0, 0, 0}).parallel(), false);
        }
    }
}
