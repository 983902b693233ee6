/** A test for every sentence of promises 1 to 4 (a new object, add, drop, length). */
public final class BodyTest {
    private static final int SET = 0, LOAD = 1, STORE = 2, PLUS = 3, LEAST = 4, INDEX = 5;
    private static final int BAD = LoopWorkers.BAD, FULL = LoopWorkers.FULL, BUSY = LoopWorkers.BUSY;
    private static final int MIN = Integer.MIN_VALUE, MAX = Integer.MAX_VALUE;
    private static final int[] NO_SCALARS = {MIN, -1, 4, 5, MAX};

    /** Calls of add that are BAD in any loop, whatever is in its body. */
    private static final int[][] WRONG = {
        {-1, 0, 0, 0}, {6, 0, 0, 0}, {SET, -1, 0, 0}, {INDEX, 4, 0, 0}, {LOAD, 0, -3, 15}, {STORE, 0, 3, 0},
        {LOAD, 0, 0, -1}, {STORE, 0, 0, 16}, {PLUS, 0, -1, 0}, {LEAST, 0, 4, 0}};

    public static void main(String[] args) {
        newObjectHasAnEmptyBody();
        newObjectHasNoRun();
        iterationsClampedFromBelow();
        iterationsClampedFromAbove();
        iterationsBetweenAreKept();
        clampedIterationsDecideWhatFits();
        workersClampedFromBelow();
        workersClampedFromAbove();
        workersBetweenAreKept();
        addAnswersThePlace();
        addAppendsBehindTheOthers();
        addIsBusyInARun();
        addRefusesOtherOps();
        addRefusesOtherScalars();
        addRefusesOtherFactors();
        addRefusesOtherOffsets();
        addRefusesCellsOutsideInAnyIteration();
        addRefusesEveryCellOutside();
        addRefusesOtherSecondScalars();
        addTakesAnyNumberThatIsNotUsed();
        addIsFullAtSix();
        addBusyComesFirst();
        addBadComesBeforeFull();
        addRefusedChangesNothing();
        addRefusedLeavesTheRunAlone();
        dropTakesTheLastAway();
        dropIsBusyInARun();
        dropIsBadWhenThereIsNone();
        dropMakesRoom();
        dropBusyComesFirst();
        lengthFromNoneToSix();
        lengthInARun();
        Check.end();
    }

    private static void newObjectHasAnEmptyBody() {
        Check.sentence("Promise 1", "An empty body, no run");
        LoopWorkers x = new LoopWorkers(8, 4);
        Check.due("length", x.length(), 0);
        Check.due("drop", x.drop(), BAD);
        Check.due("clash(0, 0)", x.clash(0, 0), false);
        Check.due("the first place", x.add(SET, 0, 0, 0), 0);
    }

    private static void newObjectHasNoRun() {
        Check.sentence("Promise 1", "An empty body, no run");
        LoopWorkers x = new LoopWorkers(8, 4);
        Check.due("finish", x.finish(), false);
        Check.due("abandon", x.abandon(), false);
        Check.due("left", Loops.lefts(x), 0, 0, 0, 0);
        Check.due("step", x.step(0, 1), 0);
        Check.due("setScalar", x.setScalar(0, 1), true);
        Check.due("start", x.start(), true);
    }

    private static void iterationsClampedFromBelow() {
        Check.sentence("Promise 1", "iterations: clamped to 1 .. 8");
        for (int iterations : new int[] {MIN, MIN + 1, -8, -1, 0}) {
            hasIterations(iterations, 1);
        }
    }

    private static void iterationsClampedFromAbove() {
        Check.sentence("Promise 1", "iterations: clamped to 1 .. 8");
        for (int iterations : new int[] {9, 16, 257, MAX}) {
            hasIterations(iterations, 8);
        }
    }

    private static void iterationsBetweenAreKept() {
        Check.sentence("Promise 1", "iterations: clamped to 1 .. 8");
        for (int iterations = 1; iterations <= 8; iterations++) {
            hasIterations(iterations, iterations);
        }
    }

    private static void hasIterations(int given, int want) {
        LoopWorkers x = Loops.counting(given, 1);
        x.start();
        Check.due("left of " + given + " iterations", x.left(0), want);
        x.finish();
        Check.due("sum of " + given + " iterations", x.scalar(0), want * (want - 1) / 2);
    }

    private static void clampedIterationsDecideWhatFits() {
        Check.sentence("Promise 1", "iterations: clamped to 1 .. 8");
        LoopWorkers few = new LoopWorkers(-5, 1);
        Check.due("LOAD from 15 on, in iteration 0 only", few.add(LOAD, 0, 2, 15), 0);
        Check.due("STORE from 0 down, in iteration 0 only", few.add(STORE, 0, -2, 0), 1);
        Check.due("no two iterations to clash in", few.clash(1, 1), false);
        LoopWorkers many = new LoopWorkers(100, 1);
        Check.due("LOAD from 1 up to 15", many.add(LOAD, 0, 2, 1), 0);
        Check.due("LOAD from 2 up over 15", many.add(LOAD, 0, 2, 2), BAD);
        Check.due("STORE from 14 down to 0", many.add(STORE, 0, -2, 14), 1);
        Check.due("STORE from 13 down below 0", many.add(STORE, 0, -2, 13), BAD);
    }

    private static void workersClampedFromBelow() {
        Check.sentence("Promise 1", "workers: clamped to 1 .. 4");
        for (int workers : new int[] {MIN, MIN + 1, -4, -1, 0}) {
            hasShares(workers, 8, 0, 0, 0);
        }
    }

    private static void workersClampedFromAbove() {
        Check.sentence("Promise 1", "workers: clamped to 1 .. 4");
        for (int workers : new int[] {5, 8, 257, MAX}) {
            hasShares(workers, 2, 2, 2, 2);
        }
    }

    private static void workersBetweenAreKept() {
        Check.sentence("Promise 1", "workers: clamped to 1 .. 4");
        hasShares(1, 8, 0, 0, 0);
        hasShares(2, 4, 4, 0, 0);
        hasShares(3, 2, 3, 3, 0);
        hasShares(4, 2, 2, 2, 2);
    }

    private static void hasShares(int workers, int... want) {
        LoopWorkers x = Loops.counting(8, workers);
        x.start();
        Check.due("left with " + workers + " workers", Loops.lefts(x), want);
        Check.due("left of worker 4 with " + workers + " workers", x.left(4), 0);
    }

    private static void addAnswersThePlace() {
        Check.sentence("Promise 2", "Appends a statement to the body and answers its place (0, 1, ..)");
        int[][] body = {{SET, 3, 9, 0}, {LOAD, 0, 2, 0}, {STORE, 3, -2, 15}, {PLUS, 0, 3, 0}, {LEAST, 3, 0, 0}, {INDEX, 0, 0, 0}};
        LoopWorkers x = new LoopWorkers(8, 4);
        for (int p = 0; p < 6; p++) {
            Check.due("place of op " + p, x.add(body[p][0], body[p][1], body[p][2], body[p][3]), p);
            Check.due("length", x.length(), p + 1);
        }
    }

    private static void addAppendsBehindTheOthers() {
        Check.sentence("Promise 2", "Appends a statement to the body");
        LoopWorkers x = new LoopWorkers(1, 1);
        for (int p = 0; p < 3; p++) {
            x.add(SET, 0, 10 * p, 0);
            x.add(STORE, 0, 0, p);
        }
        Loops.fill(x);
        Loops.run(x);
        int[] want = Loops.filledCells();
        for (int p = 0; p < 3; p++) {
            want[p] = 10 * p;
        }
        Check.due("cells, each stored before the next SET", Loops.cells(x), want);
        Check.due("scalars", Loops.scalars(x), 20, 101, 102, 103);
    }

    private static void addIsBusyInARun() {
        Check.sentence("Promise 2", "BUSY while a run is under way");
        LoopWorkers x = Loops.counting(2, 2);
        Check.due("before the start", x.add(INDEX, 0, 0, 0), 1);
        x.start();
        Check.due("after the start", x.add(INDEX, 0, 0, 0), BUSY);
        x.step(0, 2);
        x.step(1, 1);
        Check.due("before the last statement", x.add(INDEX, 0, 0, 0), BUSY);
        x.step(1, 1);
        Check.due("after the last statement", x.add(INDEX, 0, 0, 0), 2);
        x.start();
        x.abandon();
        Check.due("after abandon", x.add(INDEX, 0, 0, 0), 3);
        Loops.run(x);
        Check.due("after finish", x.add(INDEX, 0, 0, 0), 4);
    }

    private static void addRefusesOtherOps() {
        Check.sentence("Promise 2", "BAD when op is not 0 .. 5");
        for (int op : new int[] {MIN, -2, -1, 6, 7, 256, MAX}) {
            Check.due("op " + op, new LoopWorkers(1, 1).add(op, 0, 0, 0), BAD);
        }
        for (int op = SET; op <= INDEX; op++) {
            Check.due("op " + op, new LoopWorkers(1, 1).add(op, 0, 0, 0), 0);
        }
    }

    private static void addRefusesOtherScalars() {
        Check.sentence("Promise 2", "BAD when x is not 0 .. 3");
        for (int op = SET; op <= INDEX; op++) {
            LoopWorkers x = new LoopWorkers(1, 1);
            for (int s : NO_SCALARS) {
                Check.due("op " + op + ", x " + s, x.add(op, s, 0, 0), BAD);
            }
            for (int s = 0; s < 4; s++) {
                Check.due("op " + op + ", x " + s, x.add(op, s, 0, 0), s);
            }
        }
    }

    private static void addRefusesOtherFactors() {
        Check.sentence("Promise 2", "BAD for LOAD and STORE unless a is -2 .. 2");
        for (int op : new int[] {LOAD, STORE}) {
            // In iteration 0 alone the cell is b, whatever a is.
            LoopWorkers x = new LoopWorkers(1, 1);
            for (int a : new int[] {MIN, -16, -4, -3, 3, 4, 16, MAX}) {
                Check.due("op " + op + ", a " + a, x.add(op, 0, a, 8), BAD);
            }
            for (int a = -2; a <= 2; a++) {
                Check.due("op " + op + ", a " + a, x.add(op, 0, a, 8), a + 2);
            }
        }
    }

    private static void addRefusesOtherOffsets() {
        Check.sentence("Promise 2", "BAD for LOAD and STORE unless b is 0 .. 15");
        for (int op : new int[] {LOAD, STORE}) {
            for (int a = -2; a <= 2; a++) {
                LoopWorkers x = new LoopWorkers(2, 1);
                for (int b : new int[] {MIN, MIN + 1, -16, -2, -1, 16, 17, 31, MAX - 1, MAX}) {
                    Check.due("op " + op + ", a " + a + ", b " + b, x.add(op, 0, a, b), BAD);
                }
                int least = a < 0 ? -a : 0;
                int most = a > 0 ? 15 - a : 15;
                Check.due("op " + op + ", a " + a + ", the least b", x.add(op, 0, a, least), 0);
                Check.due("op " + op + ", a " + a + ", the greatest b", x.add(op, 0, a, most), 1);
            }
        }
    }

    private static void addRefusesCellsOutsideInAnyIteration() {
        Check.sentence("Promise 2", "BAD for LOAD and STORE unless a * i + b is 0 .. 15 in every iteration");
        for (int op : new int[] {LOAD, STORE}) {
            for (int iterations = 1; iterations <= 8; iterations++) {
                int far = iterations - 1;
                for (int a = 1; a <= 2; a++) {
                    LoopWorkers x = new LoopWorkers(iterations, 1);
                    String what = "op " + op + ", a " + a + ", " + iterations + " iterations: ";
                    Check.due(what + "up to 15", x.add(op, 0, a, 15 - a * far), 0);
                    Check.due(what + "down to 0", x.add(op, 0, -a, a * far), 1);
                    Check.due(what + "up to 16", x.add(op, 0, a, 16 - a * far), BAD);
                    Check.due(what + "down to -1", x.add(op, 0, -a, a * far - 1), BAD);
                    Check.due(what + "length", x.length(), 2);
                }
            }
        }
    }

    private static void addRefusesEveryCellOutside() {
        Check.sentence("Promise 2", "BAD for LOAD and STORE unless a is -2 .. 2, b is 0 .. 15 and a * i + b is 0 .. 15 in every iteration");
        for (int iterations = 1; iterations <= 8; iterations++) {
            for (int a = -4; a <= 4; a++) {
                for (int b = -3; b <= 19; b++) {
                    boolean fits = a >= -2 && a <= 2 && b >= 0 && b <= 15;
                    for (int i = 0; i < iterations; i++) {
                        fits = fits && a * i + b >= 0 && a * i + b <= 15;
                    }
                    String what = iterations + " iterations, a " + a + ", b " + b;
                    Check.due("LOAD, " + what, new LoopWorkers(iterations, 1).add(LOAD, 3, a, b), fits ? 0 : BAD);
                    Check.due("STORE, " + what, new LoopWorkers(iterations, 1).add(STORE, 3, a, b), fits ? 0 : BAD);
                }
            }
        }
    }

    private static void addRefusesOtherSecondScalars() {
        Check.sentence("Promise 2", "BAD for PLUS and LEAST unless a is 0 .. 3");
        for (int op : new int[] {PLUS, LEAST}) {
            LoopWorkers x = new LoopWorkers(3, 2);
            for (int a : NO_SCALARS) {
                Check.due("op " + op + ", a " + a, x.add(op, 0, a, 0), BAD);
            }
            for (int a = 0; a < 4; a++) {
                Check.due("op " + op + ", a " + a, x.add(op, 0, a, 0), a);
            }
        }
    }

    private static void addTakesAnyNumberThatIsNotUsed() {
        Check.sentence("Promise 2", "Appends a statement to the body");
        for (int v : new int[] {MIN, -3, -1, 3, 4, 16, MAX}) {
            LoopWorkers x = new LoopWorkers(8, 2);
            Check.due("SET, a and b " + v, x.add(SET, 0, v, v), 0);
            Check.due("PLUS, b " + v, x.add(PLUS, 1, 3, v), 1);
            Check.due("LEAST, b " + v, x.add(LEAST, 2, 3, v), 2);
            Check.due("INDEX, a and b " + v, x.add(INDEX, 1, v, v), 3);
        }
    }

    private static void addIsFullAtSix() {
        Check.sentence("Promise 2", "FULL when there are six statements");
        for (int op = SET; op <= INDEX; op++) {
            LoopWorkers x = new LoopWorkers(8, 4);
            for (int p = 0; p < 6; p++) {
                Check.due("op " + op + ", place " + p, x.add(op, 0, 1, 0), p);
            }
            Check.due("the seventh, op " + op, x.add(op, 0, 1, 0), FULL);
            Check.due("once more, op " + op, x.add(op, 0, 1, 0), FULL);
            Check.due("length", x.length(), 6);
            Loops.run(x);
            Check.due("after a run, op " + op, x.add(op, 0, 1, 0), FULL);
        }
    }

    private static LoopWorkers full() {
        int[] index = {INDEX, 0, 0, 0};
        return Loops.with(8, 4, index, index, index, index, index, index);
    }

    private static void addBusyComesFirst() {
        Check.sentence("Promise 2", "by the first that applies: BUSY, BAD, FULL");
        LoopWorkers one = Loops.counting(8, 4);
        LoopWorkers six = full();
        one.start();
        six.start();
        for (int[] s : WRONG) {
            Check.due("a BAD one in a run, op " + s[0], one.add(s[0], s[1], s[2], s[3]), BUSY);
            Check.due("a BAD one in a run when full, op " + s[0], six.add(s[0], s[1], s[2], s[3]), BUSY);
        }
        Check.due("a good one in a run when full", six.add(INDEX, 0, 0, 0), BUSY);
    }

    private static void addBadComesBeforeFull() {
        Check.sentence("Promise 2", "by the first that applies: BAD, FULL");
        LoopWorkers x = full();
        for (int[] s : WRONG) {
            Check.due("a BAD one when full, op " + s[0], x.add(s[0], s[1], s[2], s[3]), BAD);
        }
        Check.due("a LOAD that leaves the cells, when full", x.add(LOAD, 0, 2, 2), BAD);
        Check.due("a good one when full", x.add(LOAD, 0, 2, 1), FULL);
    }

    private static void addRefusedChangesNothing() {
        Check.sentence("Promise 2", "A call that appends nothing changes nothing");
        for (int size = 0; size <= 6; size++) {
            int[][] body = new int[size][];
            for (int p = 0; p < size; p++) {
                body[p] = new int[] {STORE, p % 3, 1, p + 1};
            }
            LoopWorkers x = Loops.with(4, 2, body);
            Loops.fill(x);
            int[] before = Loops.all(x);
            for (int[] s : WRONG) {
                Check.due("add of op " + s[0] + " to " + size, x.add(s[0], s[1], s[2], s[3]), BAD);
            }
            if (size == 6) {
                Check.due("add of one too many", x.add(SET, 3, 77, 0), FULL);
            }
            Check.due("all that shows, with " + size, Loops.all(x), before);
            LoopWorkers twin = Loops.with(4, 2, body);
            Loops.fill(twin);
            x.start();
            twin.start();
            Check.due("left of its run, with " + size, Loops.lefts(x), Loops.lefts(twin));
            x.finish();
            twin.finish();
            Check.due("all after its run, with " + size, Loops.all(x), Loops.all(twin));
        }
    }

    private static void addRefusedLeavesTheRunAlone() {
        Check.sentence("Promise 2", "A call that appends nothing changes nothing");
        LoopWorkers x = Loops.with(4, 2, new int[][] {{SET, 0, 5, 0}, {STORE, 0, 1, 0}});
        x.start();
        x.step(0, 1);
        int[] before = Loops.all(x);
        Check.due("a good one in a run", x.add(SET, 0, 6, 0), BUSY);
        Check.due("a BAD one in a run", x.add(SET, 4, 6, 0), BUSY);
        Check.due("all that shows in the run", Loops.all(x), before);
        x.finish();
        Check.due("scalar 0", x.scalar(0), 5);
        Check.due("cell 3", x.cell(3), 5);
        Check.due("length", x.length(), 2);
    }

    private static void dropTakesTheLastAway() {
        Check.sentence("Promise 3", "Takes the last statement away and answers how many are left");
        LoopWorkers x = new LoopWorkers(1, 1);
        for (int p = 0; p < 6; p++) {
            x.add(SET, 0, p + 1, 0);
        }
        for (int rest = 5; rest >= 1; rest--) {
            Check.due("drop", x.drop(), rest);
            Check.due("length", x.length(), rest);
            Loops.run(x);
            Check.due("the last one that is left", x.scalar(0), rest);
        }
        Check.due("drop of the only one", x.drop(), 0);
        Check.due("length", x.length(), 0);
        Check.due("role of what it mentioned", x.role(0), LoopWorkers.UNUSED);
    }

    private static void dropIsBusyInARun() {
        Check.sentence("Promise 3", "BUSY while a run is under way");
        LoopWorkers x = Loops.with(2, 2, new int[][] {{INDEX, 0, 0, 0}, {SET, 1, 3, 0}});
        x.start();
        Check.due("after the start", x.drop(), BUSY);
        x.step(1, 2);
        x.step(0, 1);
        Check.due("before the last statement", x.drop(), BUSY);
        Check.due("length", x.length(), 2);
        Check.due("left", x.left(0), 1);
        x.step(0, 1);
        Check.due("both were carried out", x.scalar(1), 3);
        Check.due("after the last statement", x.drop(), 1);
        x.start();
        x.abandon();
        Check.due("after abandon", x.drop(), 0);
    }

    private static void dropIsBadWhenThereIsNone() {
        Check.sentence("Promise 3", "BAD when there is none");
        LoopWorkers x = new LoopWorkers(8, 4);
        Check.due("of a new object", x.drop(), BAD);
        Check.due("again", x.drop(), BAD);
        Check.due("length", x.length(), 0);
        x.start();
        Check.due("after a run that ended at once", x.drop(), BAD);
        Check.due("the first place is still 0", x.add(INDEX, 0, 0, 0), 0);
        Check.due("of the only one", x.drop(), 0);
        Check.due("when it is gone", x.drop(), BAD);
        Check.due("length when it is gone", x.length(), 0);
    }

    private static void dropMakesRoom() {
        Check.sentence("Promise 3", "Takes the last statement away");
        LoopWorkers x = full();
        Check.due("drop", x.drop(), 5);
        Check.due("add in its place", x.add(SET, 1, 9, 0), 5);
        Check.due("full again", x.add(SET, 1, 9, 0), FULL);
        Loops.run(x);
        Check.due("scalars", Loops.scalars(x), 5 * 28, 9, 0, 0);
    }

    private static void dropBusyComesFirst() {
        Check.sentence("Promise 3", "BUSY while a run is under way");
        LoopWorkers x = Loops.counting(8, 4);
        x.start();
        for (int n = 0; n < 3; n++) {
            Check.due("as often as there are statements and more", x.drop(), BUSY);
        }
        x.finish();
        Check.due("nothing was dropped", x.scalar(0), 28);
        Check.due("drop after the run", x.drop(), 0);
    }

    private static void lengthFromNoneToSix() {
        Check.sentence("Promise 4", "The number of statements");
        LoopWorkers x = new LoopWorkers(8, 4);
        Check.due("of none", x.length(), 0);
        for (int n = 1; n <= 7; n++) {
            x.add(INDEX, 0, 0, 0);
            Check.due("after " + n + " calls of add", x.length(), n < 6 ? n : 6);
        }
        for (int n = 1; n <= 7; n++) {
            x.drop();
            Check.due("after " + n + " calls of drop", x.length(), n < 6 ? 6 - n : 0);
        }
    }

    private static void lengthInARun() {
        Check.sentence("Promise 4", "The number of statements");
        LoopWorkers x = full();
        x.start();
        Check.due("after the start", x.length(), 6);
        x.step(0, 5);
        Check.due("after some steps", x.length(), 6);
        x.abandon();
        Check.due("after abandon", x.length(), 6);
        Loops.run(x);
        Check.due("after finish", x.length(), 6);
    }
}
