/** A test for every sentence of "Terms", up to where runs begin. */
public final class TermsTest {
    private static final int SET = 0, LOAD = 1, STORE = 2, PLUS = 3, LEAST = 4, INDEX = 5;
    private static final int UNUSED = LoopWorkers.UNUSED, SHARED = LoopWorkers.SHARED, LOCAL = LoopWorkers.LOCAL;
    private static final int SUM = LoopWorkers.SUM, MINIMUM = LoopWorkers.MINIMUM, CARRIED = LoopWorkers.CARRIED;
    private static final int MIN = Integer.MIN_VALUE, MAX = Integer.MAX_VALUE;

    public static void main(String[] args) {
        allZeroAtFirst();
        scalarsAndCellsAreInts();
        atMostSixStatements();
        fromTheFirstIterationToTheLast();
        setTakesAnyNumber();
        loadAtTheEdges();
        storeAtTheEdges();
        plusOfAnotherAndOfItself();
        leastOfTheFarthestAndOfEquals();
        indexInIterationZero();
        sumsWrap();
        sumsWrapOnEveryNumberOfWorkers();
        whatMentionsAScalar();
        unusedBeforeAllOthers();
        sharedWhateverStores();
        localByTheFirstMention();
        sumOfOthersOnly();
        minimumOfOthersOnly();
        carriedOtherwise();
        clashOfLoadAndStoreOnly();
        clashNeedsAStore();
        clashNeedsTwoDifferentIterations();
        clashOfTheFirstAndLastIteration();
        clashOfAStatementWithItself();
        parallelOfAnEmptyBody();
        parallelUnlessCarried();
        parallelUnlessAClash();
        Check.end();
    }

    private static void allZeroAtFirst() {
        Check.sentence("Terms", "scalars 0 .. 3 and cells 0 .. 15 (ints, all 0 at first)");
        LoopWorkers x = new LoopWorkers(8, 4);
        Check.due("scalars", Loops.scalars(x), 0, 0, 0, 0);
        Check.due("cells", Loops.cells(x), new int[16]);
    }

    private static void scalarsAndCellsAreInts() {
        Check.sentence("Terms", "scalars 0 .. 3 and cells 0 .. 15 (ints, all 0 at first)");
        for (int v : new int[] {MIN, MIN + 1, -1, 0, 1, 1 << 15, 1 << 16, MAX}) {
            LoopWorkers x = Loops.with(1, 1, new int[][] {{STORE, 0, 0, 15}, {LOAD, 3, 0, 0}});
            x.setScalar(0, v);
            x.setCell(0, v);
            Loops.run(x);
            Check.due("scalar 3 loaded", x.scalar(3), v);
            Check.due("cell 15 stored", x.cell(15), v);
        }
    }

    private static void atMostSixStatements() {
        Check.sentence("Terms", "a BODY of at most six statements");
        LoopWorkers x = new LoopWorkers(1, 1);
        for (int n = 1; n <= 9; n++) {
            x.add(SET, 0, n, 0);
            Check.due("length after " + n + " of them", x.length(), n < 6 ? n : 6);
        }
        x.start();
        Check.due("left", x.left(0), 6);
        x.finish();
        Check.due("the last statement is the sixth", x.scalar(0), 6);
    }

    private static void fromTheFirstIterationToTheLast() {
        Check.sentence("Terms", "carried out for i = 0, 1, .., iterations - 1");
        for (int iterations = 1; iterations <= 8; iterations++) {
            LoopWorkers x = Loops.with(iterations, 1, new int[][] {{SET, 0, 0, 0}, {INDEX, 0, 0, 0}, {STORE, 0, 1, 8}});
            Loops.fill(x);
            Loops.run(x);
            int[] want = Loops.filledCells();
            for (int i = 0; i < iterations; i++) {
                want[8 + i] = i;
            }
            if (iterations < 8) {
                Check.due("the cell after the last of " + iterations, x.cell(8 + iterations), 8 + iterations - 200);
            }
            Check.due("cells after " + iterations, Loops.cells(x), want);
            LoopWorkers alone = Loops.with(iterations, 4, new int[][] {{PLUS, 1, 1, 0}, {INDEX, 1, 0, 0}});
            alone.setScalar(1, 1);
            Loops.run(alone);
            int sum = 1;
            for (int i = 0; i < iterations; i++) {
                sum = 2 * sum + i;
            }
            Check.due("scalar 1 after " + iterations + ", by worker 0 alone", alone.scalar(1), sum);
        }
    }

    private static void setTakesAnyNumber() {
        Check.sentence("Terms", "scalar x becomes a (b is not used)");
        for (int v : new int[] {MIN, -1, 0, 4, MAX}) {
            LoopWorkers x = Loops.with(2, 1, new int[][] {{SET, 0, v, MAX}, {SET, 3, v, MIN}});
            Loops.fill(x);
            Loops.run(x);
            Check.due("scalars after SET " + v, Loops.scalars(x), v, 101, 102, v);
        }
    }

    private static void loadAtTheEdges() {
        Check.sentence("Terms", "scalar x becomes cell a * i + b");
        int[][] cases = {
            {0, 0, 0}, {0, 15, 15}, {1, 0, 7}, {1, 8, 15}, {-1, 7, 0}, {-1, 15, 8},
            {2, 1, 15}, {2, 0, 14}, {-2, 14, 0}, {-2, 15, 1}};
        for (int[] c : cases) {
            LoopWorkers x = Loops.with(8, 2, new int[][] {{LOAD, 1, c[0], c[1]}});
            Loops.fill(x);
            Loops.run(x);
            Check.due("scalars after LOAD " + c[0] + " " + c[1], Loops.scalars(x), 100, c[2] - 200, 102, 103);
            Check.due("cells after LOAD", Loops.cells(x), Loops.filledCells());
        }
    }

    private static void storeAtTheEdges() {
        Check.sentence("Terms", "cell a * i + b becomes scalar x");
        int[][] cases = {{0, 0}, {0, 15}, {1, 0}, {1, 8}, {-1, 7}, {-1, 15}, {2, 1}, {2, 0}, {-2, 14}, {-2, 15}};
        for (int[] c : cases) {
            LoopWorkers x = Loops.with(8, 2, new int[][] {{STORE, 1, c[0], c[1]}});
            Loops.fill(x);
            Loops.run(x);
            int[] want = Loops.filledCells();
            for (int i = 0; i < 8; i++) {
                want[c[0] * i + c[1]] = 101;
            }
            Check.due("cells after STORE " + c[0] + " " + c[1], Loops.cells(x), want);
            Check.due("scalars after STORE", Loops.scalars(x), Loops.filledScalars());
        }
    }

    private static void plusOfAnotherAndOfItself() {
        Check.sentence("Terms", "scalar x becomes scalar x + scalar a (b is not used)");
        for (int s = 0; s < 4; s++) {
            for (int t = 0; t < 4; t++) {
                LoopWorkers one = Loops.with(1, 1, new int[][] {{PLUS, s, t, 3 - t}});
                Loops.fill(one);
                Loops.run(one);
                int[] want = Loops.filledScalars();
                want[s] += 100 + t;
                Check.due("scalars after " + s + " PLUS " + t, Loops.scalars(one), want);
            }
        }
        LoopWorkers x = Loops.with(3, 2, new int[][] {{PLUS, 3, 3, 1}});
        x.setScalar(1, 1000);
        x.setScalar(3, 5);
        Loops.run(x);
        Check.due("scalars after doubling thrice", Loops.scalars(x), 0, 1000, 0, 40);
    }

    private static void leastOfTheFarthestAndOfEquals() {
        Check.sentence("Terms", "scalar x becomes the lesser of scalar x and scalar a (b is not used)");
        int[][] cases = {{MIN, MAX}, {MAX, MIN}, {MIN, 1}, {-2, MAX}, {0, 0}, {MIN, MIN}, {MAX, MAX}, {-1, 0}, {0, -1}, {-7, -8}, {7, 8}};
        for (int[] c : cases) {
            LoopWorkers x = Loops.with(1, 1, new int[][] {{LEAST, 0, 3, 2}});
            x.setScalar(0, c[0]);
            x.setScalar(2, MIN);
            x.setScalar(3, c[1]);
            Loops.run(x);
            Check.due("scalars after LEAST of " + c[0] + " and " + c[1], Loops.scalars(x), Math.min(c[0], c[1]), 0, MIN, c[1]);
        }
        LoopWorkers y = Loops.with(2, 1, new int[][] {{LEAST, 0, 0, 0}});
        y.setScalar(0, 9);
        Loops.run(y);
        Check.due("LEAST of itself", y.scalar(0), 9);
    }

    private static void indexInIterationZero() {
        Check.sentence("Terms", "scalar x becomes scalar x + i (a and b are not used)");
        LoopWorkers one = Loops.with(1, 1, new int[][] {{INDEX, 0, 3, 3}});
        Loops.fill(one);
        Loops.run(one);
        Check.due("scalars after iteration 0 alone", Loops.scalars(one), Loops.filledScalars());
        LoopWorkers two = Loops.with(2, 1, new int[][] {{INDEX, 0, 3, MAX}, {INDEX, 1, MIN, 3}});
        Loops.fill(two);
        Loops.run(two);
        Check.due("scalars after iterations 0 and 1", Loops.scalars(two), 101, 102, 102, 103);
    }

    private static void sumsWrap() {
        Check.sentence("Terms", "Sums wrap");
        int[][] cases = {{MAX, 1, MIN}, {MIN, -1, MAX}, {MAX, MAX, -2}, {MIN, MIN, 0}, {MAX, 0, MAX}, {MIN, MAX, -1}};
        for (int[] c : cases) {
            LoopWorkers x = Loops.with(1, 1, new int[][] {{PLUS, 0, 1, 0}});
            x.setScalar(0, c[0]);
            x.setScalar(1, c[1]);
            Loops.run(x);
            Check.due(c[0] + " PLUS " + c[1], x.scalar(0), c[2]);
        }
        LoopWorkers carried = Loops.with(3, 1, new int[][] {{PLUS, 0, 0, 0}});
        carried.setScalar(0, 3 << 29);
        Loops.run(carried);
        Check.due("a scalar doubled over the edge", carried.scalar(0), 0);
        LoopWorkers local = Loops.with(2, 2, new int[][] {{SET, 0, MAX, 0}, {INDEX, 0, 0, 0}});
        Loops.run(local);
        Check.due("the greatest int INDEX 1", local.scalar(0), MIN);
    }

    private static void sumsWrapOnEveryNumberOfWorkers() {
        Check.sentence("Terms", "Sums wrap");
        for (int workers = 1; workers <= 4; workers++) {
            LoopWorkers x = Loops.with(8, workers, new int[][] {{PLUS, 0, 1, 0}, {INDEX, 2, 0, 0}, {PLUS, 3, 1, 0}});
            x.setScalar(0, MAX);
            x.setScalar(1, MAX);
            x.setScalar(2, MAX - 1);
            x.setScalar(3, MIN);
            Loops.run(x);
            Check.due("scalars on " + workers, Loops.scalars(x), MAX - 8, MAX, MIN + 26, MIN - 8);
        }
    }

    private static void whatMentionsAScalar() {
        Check.sentence("Terms", "A statement MENTIONS the scalar x, and PLUS and LEAST also the scalar a");
        int[] ops = {SET, LOAD, STORE, PLUS, LEAST, INDEX};
        int[] roleOfX = {LOCAL, LOCAL, SHARED, SUM, MINIMUM, SUM};
        for (int op : ops) {
            LoopWorkers x = Loops.with(3, 2, new int[][] {{op, 0, 1, 2}});
            int roleOfA = op == PLUS || op == LEAST ? SHARED : UNUSED;
            Check.due("roles after op " + op, Loops.roles(x), roleOfX[op], roleOfA, UNUSED, UNUSED);
        }
    }

    private static void unusedBeforeAllOthers() {
        Check.sentence("Terms", "UNUSED: no statement mentions it");
        // Of no statement at all every "every" and every "no" is true as well.
        Check.due("roles in an empty body", Loops.roles(new LoopWorkers(8, 4)), UNUSED, UNUSED, UNUSED, UNUSED);
        LoopWorkers x = Loops.with(3, 2, new int[][] {{SET, 1, 0, 3}, {STORE, 1, 0, 3}, {INDEX, 1, 3, 0}});
        Check.due("roles beside a used scalar", Loops.roles(x), UNUSED, LOCAL, UNUSED, UNUSED);
    }

    private static void sharedWhateverStores() {
        Check.sentence("Terms", "SHARED: no statement has it as the x of an operation other than STORE");
        int[][] uses = {{STORE, 2, 1, 0}, {PLUS, 0, 2, 0}, {LEAST, 1, 2, 0}, {STORE, 2, 0, 15}};
        LoopWorkers x = Loops.with(3, 2, uses);
        Check.due("stored and read only", Loops.roles(x), SUM, MINIMUM, SHARED, UNUSED);
        for (int op : new int[] {SET, LOAD, PLUS, LEAST, INDEX}) {
            LoopWorkers y = Loops.with(3, 2, uses);
            y.add(op, 2, op == LOAD ? 1 : 3, 5);
            Check.due("role once it is the x of op " + op, y.role(2), CARRIED);
        }
    }

    private static void localByTheFirstMention() {
        Check.sentence("Terms", "LOCAL: the first statement that mentions it is SET or LOAD");
        int[][] firsts = {{SET, 2, 7, 0}, {LOAD, 2, 1, 0}};
        int[][] others = {{STORE, 2, 1, 8}, {PLUS, 2, 2, 0}, {LEAST, 2, 2, 0}, {INDEX, 2, 0, 0}, {PLUS, 0, 2, 0}, {LEAST, 0, 2, 0}};
        for (int[] first : firsts) {
            Check.due("alone", Loops.with(3, 2, first).role(2), LOCAL);
            for (int[] other : others) {
                Check.due("before op " + other[0], Loops.with(3, 2, first, other).role(2), LOCAL);
                Check.due("after op " + other[0], Loops.with(3, 2, other, first).role(2), CARRIED);
            }
            int[] apart = {INDEX, 1, 2, 2};
            Check.due("after one that does not mention it", Loops.with(3, 2, apart, first).role(2), LOCAL);
        }
    }

    private static void sumOfOthersOnly() {
        Check.sentence("Terms", "SUM: every statement that mentions it is PLUS with it as x and another scalar as a, or INDEX");
        int[] plus = {PLUS, 2, 1, 0};
        int[] index = {INDEX, 2, 2, 2};
        Check.due("PLUS", Loops.with(3, 2, plus).role(2), SUM);
        Check.due("INDEX", Loops.with(3, 2, index).role(2), SUM);
        Check.due("both", Loops.with(3, 2, index, plus, index).role(2), SUM);
        int[][] spoilers = {
            {PLUS, 2, 2, 0}, {PLUS, 0, 2, 0}, {LEAST, 2, 1, 0}, {LEAST, 0, 2, 0},
            {STORE, 2, 1, 0}, {SET, 2, 0, 0}, {LOAD, 2, 1, 0}};
        for (int[] spoiler : spoilers) {
            Check.due("PLUS, then op " + spoiler[0], Loops.with(3, 2, plus, spoiler).role(2), CARRIED);
            Check.due("INDEX, then op " + spoiler[0], Loops.with(3, 2, index, spoiler).role(2), CARRIED);
            int behind = spoiler[0] == SET || spoiler[0] == LOAD ? LOCAL : CARRIED;
            Check.due("op " + spoiler[0] + ", then PLUS", Loops.with(3, 2, spoiler, plus).role(2), behind);
            Check.due("op " + spoiler[0] + ", then INDEX", Loops.with(3, 2, spoiler, index).role(2), behind);
        }
        Check.due("PLUS of itself alone", Loops.with(3, 2, new int[] {PLUS, 2, 2, 0}).role(2), CARRIED);
    }

    private static void minimumOfOthersOnly() {
        Check.sentence("Terms", "MINIMUM: every statement that mentions it is LEAST with it as x and another scalar as a");
        int[] least = {LEAST, 2, 1, 2};
        int[] other = {LEAST, 2, 0, 2};
        Check.due("LEAST", Loops.with(3, 2, least).role(2), MINIMUM);
        Check.due("LEAST twice", Loops.with(3, 2, least, other).role(2), MINIMUM);
        int[][] spoilers = {
            {LEAST, 2, 2, 0}, {LEAST, 0, 2, 0}, {PLUS, 2, 1, 0}, {PLUS, 0, 2, 0},
            {INDEX, 2, 0, 0}, {STORE, 2, 1, 0}, {SET, 2, 0, 0}, {LOAD, 2, 1, 0}};
        for (int[] spoiler : spoilers) {
            Check.due("LEAST, then op " + spoiler[0], Loops.with(3, 2, least, spoiler).role(2), CARRIED);
            int behind = spoiler[0] == SET || spoiler[0] == LOAD ? LOCAL : CARRIED;
            Check.due("op " + spoiler[0] + ", then LEAST", Loops.with(3, 2, spoiler, least).role(2), behind);
        }
        Check.due("LEAST of itself alone", Loops.with(3, 2, new int[] {LEAST, 2, 2, 0}).role(2), CARRIED);
    }

    private static void carriedOtherwise() {
        Check.sentence("Terms", "CARRIED: otherwise");
        LoopWorkers x = Loops.with(3, 2, new int[][] {
            {PLUS, 0, 1, 0}, {LEAST, 1, 2, 0}, {STORE, 2, 1, 0}, {SET, 2, 0, 0}, {INDEX, 3, 0, 0}, {STORE, 3, 1, 8}});
        Check.due("roles", Loops.roles(x), SUM, CARRIED, CARRIED, CARRIED);
    }

    private static void clashOfLoadAndStoreOnly() {
        Check.sentence("Terms", "p and q CLASH when both are LOAD or STORE");
        for (int op : new int[] {SET, PLUS, LEAST, INDEX}) {
            LoopWorkers x = Loops.with(4, 2, new int[][] {{STORE, 0, 0, 3}, {op, 0, 0, 3}});
            Check.due("STORE and op " + op, x.clash(0, 1), false);
            Check.due("op " + op + " and STORE", x.clash(1, 0), false);
            Check.due("op " + op + " and itself", x.clash(1, 1), false);
        }
    }

    private static void clashNeedsAStore() {
        Check.sentence("Terms", "at least one of them is STORE");
        LoopWorkers x = Loops.with(4, 2, new int[][] {{LOAD, 0, 0, 3}, {LOAD, 1, 0, 3}, {STORE, 2, 0, 3}});
        Check.due("LOAD and LOAD", x.clash(0, 1), false);
        Check.due("LOAD and itself", x.clash(0, 0), false);
        Check.due("LOAD and STORE", x.clash(0, 2), true);
        Check.due("STORE and LOAD", x.clash(2, 1), true);
        Check.due("STORE and itself", x.clash(2, 2), true);
    }

    private static void clashNeedsTwoDifferentIterations() {
        Check.sentence("Terms", "there are two different iterations i and j");
        // The cells meet in iteration 0, and not before iteration 2 in another.
        clashes("from one cell apart", 2, new int[] {STORE, 0, 1, 4}, new int[] {LOAD, 1, 2, 4}, false);
        clashes("from one cell apart", 3, new int[] {STORE, 0, 1, 4}, new int[] {LOAD, 1, 2, 4}, true);
        // They meet in iteration 1, and with 3 iterations in 0 and 2 as well.
        clashes("towards each other", 2, new int[] {STORE, 0, 1, 0}, new int[] {LOAD, 1, -1, 2}, false);
        clashes("towards each other", 3, new int[] {STORE, 0, 1, 0}, new int[] {LOAD, 1, -1, 2}, true);
        clashes("side by side", 8, new int[] {STORE, 0, 2, 1}, new int[] {LOAD, 1, 2, 1}, false);
        clashes("odd and even", 8, new int[] {STORE, 0, 2, 1}, new int[] {LOAD, 1, 2, 0}, false);
        clashes("one cell", 1, new int[] {STORE, 0, 0, 9}, new int[] {STORE, 1, 0, 9}, false);
        clashes("one cell", 2, new int[] {STORE, 0, 0, 9}, new int[] {STORE, 1, 0, 9}, true);
    }

    private static void clashOfTheFirstAndLastIteration() {
        Check.sentence("Terms", "the cell of p in iteration i is the cell of q in iteration j");
        for (int iterations = 2; iterations <= 8; iterations++) {
            int[] store = {STORE, 0, 1, 0};
            clashes("the last cell is the other's first", iterations, store, new int[] {LOAD, 1, 1, iterations - 1}, true);
            clashes("the last cell is before the other's first", iterations, store, new int[] {LOAD, 1, 1, iterations}, false);
            int[] down = {STORE, 0, -1, 15};
            clashes("downwards, the last cell is the other's first", iterations, down, new int[] {STORE, 1, -1, 16 - iterations}, true);
            clashes("downwards, the last cell is before it", iterations, down, new int[] {STORE, 1, -1, 15 - iterations}, false);
        }
    }

    private static void clashes(String what, int iterations, int[] left, int[] right, boolean want) {
        LoopWorkers x = Loops.with(iterations, 2, left, right);
        Check.due(what + ", " + iterations + " iterations, clash(0, 1)", x.clash(0, 1), want);
        Check.due(what + ", " + iterations + " iterations, clash(1, 0)", x.clash(1, 0), want);
    }

    private static void clashOfAStatementWithItself() {
        Check.sentence("Terms", "p and q may be the same statement");
        for (int iterations = 1; iterations <= 8; iterations++) {
            LoopWorkers x = Loops.with(iterations, 2, new int[][] {
                {STORE, 0, 0, 0}, {STORE, 0, 1, 0}, {STORE, 0, -2, 15}, {LOAD, 1, 0, 15}});
            Check.due("STORE into one cell, " + iterations, x.clash(0, 0), iterations > 1);
            Check.due("STORE upwards, " + iterations, x.clash(1, 1), false);
            Check.due("STORE downwards, " + iterations, x.clash(2, 2), false);
            Check.due("LOAD of one cell, " + iterations, x.clash(3, 3), false);
        }
    }

    private static void parallelOfAnEmptyBody() {
        Check.sentence("Terms", "PARALLEL when no scalar is CARRIED and no statements clash");
        LoopWorkers x = new LoopWorkers(8, 4);
        Check.due("of a new object", x.parallel(), true);
        x.add(PLUS, 3, 3, 0);
        Check.due("with a CARRIED scalar", x.parallel(), false);
        x.drop();
        Check.due("of a body that was emptied", x.parallel(), true);
    }

    private static void parallelUnlessCarried() {
        Check.sentence("Terms", "PARALLEL when no scalar is CARRIED");
        for (int s = 0; s < 4; s++) {
            int t = s == 0 ? 1 : 0;
            Check.due("UNUSED, SHARED, SUM", Loops.with(8, 4, new int[] {PLUS, s, t, 0}).parallel(), true);
            Check.due("MINIMUM", Loops.with(8, 4, new int[] {LEAST, s, t, 0}).parallel(), true);
            Check.due("LOCAL", Loops.with(8, 4, new int[][] {{SET, s, 1, 0}, {PLUS, s, s, 0}}).parallel(), true);
            Check.due("CARRIED " + s, Loops.with(8, 4, new int[] {PLUS, s, s, 0}).parallel(), false);
            Check.due("CARRIED " + s + " in one iteration", Loops.with(1, 4, new int[] {PLUS, s, s, 0}).parallel(), false);
            Check.due("CARRIED " + s + " on one worker", Loops.with(8, 1, new int[] {PLUS, s, s, 0}).parallel(), false);
        }
    }

    private static void parallelUnlessAClash() {
        Check.sentence("Terms", "PARALLEL when no statements clash");
        int[] apart = {SET, 3, 0, 0};
        for (int p = 0; p < 6; p++) {
            for (int q = p; q < 6; q++) {
                int[][] body = {apart, apart, apart, apart, apart, apart};
                body[p] = new int[] {STORE, 0, 1, 0};
                body[q] = p == q ? new int[] {STORE, 0, 0, 0} : new int[] {STORE, 1, 1, 1};
                Check.due("a clash of " + p + " and " + q, Loops.with(8, 4, body).parallel(), false);
                Check.due("the same on one worker", Loops.with(8, 1, body).parallel(), false);
                Check.due("the same in one iteration", Loops.with(1, 4, body).parallel(), true);
            }
        }
    }
}
