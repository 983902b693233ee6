/** A test for every sentence of promises 12 to 16 (start, step, left, finish, abandon). */
public final class RunTest {
    private static final int SET = 0, LOAD = 1, STORE = 2, PLUS = 3, LEAST = 4, INDEX = 5;
    private static final int BAD = LoopWorkers.BAD, BUSY = LoopWorkers.BUSY;
    private static final int MIN = Integer.MIN_VALUE, MAX = Integer.MAX_VALUE;

    public static void main(String[] args) {
        startAnswersTrue();
        startRefusedInARun();
        startRefusedChangesNothing();
        startAfterEveryKindOfEnd();
        startOfAnEmptyBodyEndsAtOnce();
        startOfAnEmptyBodyChangesNothing();
        startOfAnEmptiedBody();
        stepBelowZero();
        stepOfZero();
        stepOfMoreThanIsLeft();
        stepOfJustWhatIsLeft();
        stepWhenNoneIsLeft();
        stepWithoutARun();
        stepOfOtherWorkers();
        stepOfTheLastStatement();
        stepOfNothingDoesNotEndTheRun();
        leftCountsDown();
        leftWithoutARun();
        leftOfOtherWorkers();
        leftOfTheLongestRun();
        finishFromTheStart();
        finishFromEveryPoint();
        finishWithoutARun();
        abandonFromEveryPoint();
        abandonOfALoneRun();
        abandonWithoutARun();
        abandonThenStartAnew();
        abandonThenAnotherBody();
        Check.end();
    }

    private static final int[][] BODY = {{LOAD, 0, 1, 0}, {PLUS, 1, 0, 0}, {STORE, 0, -1, 15}, {LEAST, 2, 0, 0}};

    /** Six iterations of BODY: three, and so twelve statements, for each of two workers. */
    private static LoopWorkers loop() {
        LoopWorkers x = Loops.with(6, 2, BODY);
        Loops.fill(x);
        return x;
    }

    /** What loop() has become after a whole run. */
    private static void hasRun(String what, LoopWorkers x) {
        int[] want = Loops.filledCells();
        int sum = 101;
        for (int i = 0; i < 6; i++) {
            want[15 - i] = want[i];
            sum += want[i];
        }
        Check.due("cells " + what, Loops.cells(x), want);
        Check.due("scalars " + what, Loops.scalars(x), 5 - 200, sum, -200, 103);
    }

    private static void hasNoRun(String what, LoopWorkers x) {
        Check.due("left " + what, Loops.lefts(x), 0, 0, 0, 0);
        Check.due("step " + what, x.step(0, 1), 0);
        Check.due("step of the last worker " + what, x.step(1, 1), 0);
        Check.due("finish " + what, x.finish(), false);
        Check.due("abandon " + what, x.abandon(), false);
    }

    private static void startAnswersTrue() {
        Check.sentence("Promise 12", "Starts a run and answers true");
        LoopWorkers x = loop();
        Check.due("start", x.start(), true);
        Check.due("left", Loops.lefts(x), 12, 12, 0, 0);
        Check.due("add", x.add(SET, 0, 0, 0), BUSY);
        LoopWorkers least = Loops.counting(1, 1);
        Check.due("start of one statement for one worker", least.start(), true);
        Check.due("left of it", least.left(0), 1);
        Check.due("finish of it", least.finish(), true);
    }

    private static void startRefusedInARun() {
        Check.sentence("Promise 12", "false while one is under way");
        LoopWorkers x = loop();
        x.start();
        Check.due("at once", x.start(), false);
        x.step(0, 5);
        Check.due("after a step", x.start(), false);
        x.step(0, 12);
        Check.due("when worker 0 is done", x.start(), false);
        x.step(1, 11);
        Check.due("before the last statement", x.start(), false);
        x.step(1, 1);
        Check.due("after the last statement", x.start(), true);
    }

    private static void startRefusedChangesNothing() {
        Check.sentence("Promise 12", "false, changing nothing, while one is under way");
        for (int n = 0; n <= 12; n++) {
            LoopWorkers x = loop();
            x.start();
            x.step(0, n);
            x.step(1, 11);
            int[] before = Loops.all(x);
            Check.due("start after " + n, x.start(), false);
            Check.due("all that shows after " + n, Loops.all(x), before);
            Check.due("what worker 0 has left", x.step(0, 100), 12 - n);
            Check.due("what worker 1 has left", x.step(1, 100), 1);
            hasRun("after a refused start", x);
        }
    }

    private static void startAfterEveryKindOfEnd() {
        Check.sentence("Promise 12", "Starts a run and answers true");
        LoopWorkers x = loop();
        x.start();
        x.finish();
        Check.due("after finish", x.start(), true);
        x.abandon();
        Check.due("after abandon", x.start(), true);
        x.step(0, MAX);
        x.step(1, MAX);
        Check.due("after the last step", x.start(), true);
        Check.due("left", Loops.lefts(x), 12, 12, 0, 0);
    }

    private static void startOfAnEmptyBodyEndsAtOnce() {
        Check.sentence("Promise 12", "With an empty body the run ends at once");
        for (int workers = 1; workers <= 4; workers++) {
            LoopWorkers x = new LoopWorkers(8, workers);
            Check.due("start", x.start(), true);
            hasNoRun("after it", x);
            Check.due("start again", x.start(), true);
            Check.due("setScalar", x.setScalar(0, 1), true);
            x.start();
            Check.due("setCell", x.setCell(0, 1), true);
            x.start();
            Check.due("drop", x.drop(), BAD);
            x.start();
            Check.due("add", x.add(INDEX, 0, 0, 0), 0);
            Check.due("start of what was added", x.start(), true);
            Check.due("start while that is under way", x.start(), false);
        }
    }

    private static void startOfAnEmptyBodyChangesNothing() {
        Check.sentence("Promise 12", "With an empty body the run ends at once");
        LoopWorkers x = new LoopWorkers(8, 4);
        Loops.fill(x);
        int[] before = Loops.all(x);
        x.start();
        Check.due("all that shows", Loops.all(x), before);
    }

    private static void startOfAnEmptiedBody() {
        Check.sentence("Promise 12", "With an empty body the run ends at once");
        LoopWorkers x = loop();
        x.start();
        x.step(0, 3);
        x.abandon();
        for (int p = 0; p < 4; p++) {
            x.drop();
        }
        Check.due("start", x.start(), true);
        hasNoRun("after it", x);
        Check.due("scalars", Loops.scalars(x), Loops.filledScalars());
        Check.due("cells", Loops.cells(x), Loops.filledCells());
    }

    private static void stepBelowZero() {
        Check.sentence("Promise 13", "n below 0 counts as 0");
        LoopWorkers x = loop();
        x.start();
        x.step(0, 5);
        for (int n : new int[] {-1, -2, -5, -12, -100, MIN + 1, MIN}) {
            Check.due("step of " + n, x.step(0, n), 0);
            Check.due("left after it", Loops.lefts(x), 7, 12, 0, 0);
        }
        x.finish();
        hasRun("after it", x);
    }

    private static void stepOfZero() {
        Check.sentence("Promise 13", "Lets worker w carry out up to n statements");
        LoopWorkers x = loop();
        x.start();
        Check.due("step of 0", x.step(0, 0), 0);
        Check.due("left after it", Loops.lefts(x), 12, 12, 0, 0);
        Check.due("step of 1", x.step(0, 1), 1);
        Check.due("left after that", Loops.lefts(x), 11, 12, 0, 0);
    }

    private static void stepOfMoreThanIsLeft() {
        Check.sentence("Promise 13", "as far as it has any left");
        for (int n : new int[] {12, 13, 24, 25, 100, MAX - 1, MAX}) {
            LoopWorkers x = loop();
            x.start();
            x.step(1, 1);
            Check.due("step of " + n + " by worker 0", x.step(0, n), 12);
            Check.due("left after it", Loops.lefts(x), 0, 11, 0, 0);
            Check.due("step of " + n + " by worker 1", x.step(1, n), 11);
            hasRun("after steps of " + n, x);
        }
    }

    private static void stepOfJustWhatIsLeft() {
        Check.sentence("Promise 13", "as far as it has any left");
        for (int n = 0; n <= 12; n++) {
            LoopWorkers x = loop();
            x.start();
            Check.due("step of " + n, x.step(0, n), n);
            Check.due("left", x.left(0), 12 - n);
            Check.due("step of one more than is left", x.step(0, 12 - n + 1), 12 - n);
            Check.due("left", Loops.lefts(x), 0, 12, 0, 0);
        }
    }

    private static void stepWhenNoneIsLeft() {
        Check.sentence("Promise 13", "as far as it has any left");
        LoopWorkers x = loop();
        x.start();
        x.step(0, 12);
        for (int n : new int[] {MIN, -1, 0, 1, 12, MAX}) {
            Check.due("step of " + n, x.step(0, n), 0);
        }
        Check.due("left", Loops.lefts(x), 0, 12, 0, 0);
        x.finish();
        hasRun("after it", x);
    }

    private static void stepWithoutARun() {
        Check.sentence("Promise 13", "0 when no run is under way");
        LoopWorkers x = loop();
        int[] before = Loops.all(x);
        for (int w = -1; w <= 4; w++) {
            Check.due("before any run, worker " + w, x.step(w, 5), 0);
        }
        Check.due("all that shows", Loops.all(x), before);
        x.start();
        x.step(0, 2);
        x.abandon();
        Check.due("after abandon, worker 0", x.step(0, 5), 0);
        Check.due("after abandon, worker 1", x.step(1, 5), 0);
        Check.due("all that shows after abandon", Loops.all(x), before);
        Loops.run(x);
        Check.due("after finish, worker 0", x.step(0, 5), 0);
        Check.due("after finish, worker 1", x.step(1, 5), 0);
        hasRun("after that", x);
    }

    private static void stepOfOtherWorkers() {
        Check.sentence("Promise 13", "0 when w is not 0 .. workers - 1");
        for (int workers = 1; workers <= 4; workers++) {
            LoopWorkers x = Loops.counting(8, workers);
            x.start();
            int[] before = Loops.lefts(x);
            for (int w : new int[] {MIN, -4, -1, workers, workers + 1, 4, 16, MAX}) {
                Check.due("worker " + w + " of " + workers, x.step(w, 5), 0);
                Check.due("left after it", Loops.lefts(x), before);
            }
            Check.due("the last worker of " + workers, x.step(workers - 1, 1), 1);
            x.finish();
            Check.due("scalar 0", x.scalar(0), 28);
        }
    }

    private static void stepOfTheLastStatement() {
        Check.sentence("Promise 13", "When that was the last statement of all, the run ends");
        for (int last = 0; last < 2; last++) {
            LoopWorkers x = loop();
            x.start();
            x.step(1 - last, 12);
            x.step(last, 11);
            Check.due("setCell before it", x.setCell(0, 1), false);
            Check.due("scalars before it", Loops.scalars(x), Loops.filledScalars());
            Check.due("the last statement", x.step(last, 1), 1);
            hasRun("after it", x);
            hasNoRun("after it", x);
            Check.due("setCell after it", x.setCell(0, 1), true);
        }
        LoopWorkers alone = Loops.with(2, 4, new int[][] {{PLUS, 0, 0, 0}});
        alone.setScalar(0, 1);
        alone.start();
        Check.due("one of two, by worker 0 alone", alone.step(0, 1), 1);
        Check.due("start before the last", alone.start(), false);
        Check.due("the last, by worker 0 alone", alone.step(0, 1), 1);
        Check.due("scalar 0", alone.scalar(0), 4);
        Check.due("finish after the last", alone.finish(), false);
    }

    private static void stepOfNothingDoesNotEndTheRun() {
        Check.sentence("Promise 13", "When that was the last statement of all, the run ends");
        LoopWorkers x = loop();
        x.start();
        x.step(0, 0);
        x.step(1, -1);
        x.step(2, 9);
        x.step(0, 12);
        x.step(0, 12);
        Check.due("start while worker 1 has all left", x.start(), false);
        x.step(1, 11);
        x.step(0, 1);
        x.step(1, 0);
        Check.due("start while worker 1 has one left", x.start(), false);
        Check.due("finish", x.finish(), true);
    }

    private static void leftCountsDown() {
        Check.sentence("Promise 14", "How many statements worker w has left to carry out");
        LoopWorkers x = loop();
        x.start();
        for (int n = 12; n > 0; n--) {
            Check.due("left", Loops.lefts(x), n, 12, 0, 0);
            x.step(0, 1);
        }
        for (int n = 12; n > 0; n--) {
            Check.due("left", Loops.lefts(x), 0, n, 0, 0);
            x.step(1, 1);
        }
        Check.due("left", Loops.lefts(x), 0, 0, 0, 0);
        x.start();
        x.step(0, 5);
        Check.due("left after a step of five", Loops.lefts(x), 7, 12, 0, 0);
        x.step(1, 9);
        Check.due("left after a step of nine", Loops.lefts(x), 7, 3, 0, 0);
        x.step(1, 9);
        Check.due("left after as many as there were", Loops.lefts(x), 7, 0, 0, 0);
    }

    private static void leftWithoutARun() {
        Check.sentence("Promise 14", "0 when no run is under way");
        LoopWorkers x = loop();
        Check.due("before any run", Loops.lefts(x), 0, 0, 0, 0);
        x.start();
        x.step(1, 5);
        x.abandon();
        Check.due("after abandon", Loops.lefts(x), 0, 0, 0, 0);
        x.start();
        x.step(0, 5);
        x.finish();
        Check.due("after finish", Loops.lefts(x), 0, 0, 0, 0);
    }

    private static void leftOfOtherWorkers() {
        Check.sentence("Promise 14", "0 when w is not 0 .. workers - 1");
        for (int workers = 1; workers <= 4; workers++) {
            LoopWorkers x = Loops.counting(8, workers);
            for (int w : new int[] {MIN, -4, -1, workers, workers + 1, 4, 16, MAX}) {
                Check.due("worker " + w + " of " + workers + " before the run", x.left(w), 0);
            }
            x.start();
            for (int w : new int[] {MIN, -4, -1, workers, workers + 1, 4, 16, MAX}) {
                Check.due("worker " + w + " of " + workers, x.left(w), 0);
            }
            Check.due("the last worker of " + workers, x.left(workers - 1) > 0, true);
        }
    }

    private static void leftOfTheLongestRun() {
        Check.sentence("Promise 14", "How many statements worker w has left to carry out");
        int[] index = {INDEX, 0, 0, 0};
        LoopWorkers one = Loops.with(8, 1, index, index, index, index, index, index);
        one.start();
        Check.due("left of one worker", Loops.lefts(one), 48, 0, 0, 0);
        LoopWorkers three = Loops.with(8, 3, index, index, index, index, index, index);
        three.start();
        Check.due("left of three workers", Loops.lefts(three), 12, 18, 18, 0);
    }

    private static void finishFromTheStart() {
        Check.sentence("Promise 15", "Lets all workers carry out what they have left: the run ends");
        LoopWorkers x = loop();
        x.start();
        Check.due("finish", x.finish(), true);
        hasRun("after it", x);
        hasNoRun("after it", x);
        Check.due("drop after it", x.drop(), 3);
    }

    private static void finishFromEveryPoint() {
        Check.sentence("Promise 15", "Lets all workers carry out what they have left: the run ends");
        for (int n = 0; n <= 12; n++) {
            for (int m = 0; m <= 12 && n + m < 24; m++) {
                LoopWorkers x = loop();
                x.start();
                x.step(0, n);
                x.step(1, m);
                Check.due("finish after " + n + " and " + m, x.finish(), true);
                hasRun("after " + n + " and " + m, x);
                Check.due("finish again", x.finish(), false);
            }
        }
    }

    private static void finishWithoutARun() {
        Check.sentence("Promise 15", "false when no run is under way");
        LoopWorkers x = loop();
        int[] before = Loops.all(x);
        Check.due("before any run", x.finish(), false);
        x.start();
        x.step(0, 4);
        x.abandon();
        Check.due("after abandon", x.finish(), false);
        Check.due("all that shows", Loops.all(x), before);
        x.start();
        x.step(0, 12);
        x.step(1, 12);
        Check.due("after the last statement", x.finish(), false);
        hasRun("after it", x);
    }

    private static void abandonFromEveryPoint() {
        Check.sentence("Promise 16", "Ends the run as if it had never been started; answers true");
        for (int n = 0; n <= 12; n++) {
            LoopWorkers x = loop();
            int[] before = Loops.all(x);
            x.start();
            x.step(1, 11);
            x.step(0, n);
            Check.due("abandon after " + n, x.abandon(), true);
            Check.due("all that shows after " + n, Loops.all(x), before);
            hasNoRun("after " + n, x);
            Check.due("setScalar after " + n, x.setScalar(3, 103), true);
            Check.due("drop after " + n, x.drop(), 3);
            Check.due("add after " + n, x.add(LEAST, 2, 0, 0), 3);
            Loops.run(x);
            hasRun("after abandon and a whole run", x);
        }
    }

    private static void abandonOfALoneRun() {
        Check.sentence("Promise 16", "Ends the run as if it had never been started; answers true");
        LoopWorkers x = Loops.with(3, 4, new int[][] {{PLUS, 0, 0, 0}, {STORE, 0, 0, 0}});
        Loops.fill(x);
        int[] before = Loops.all(x);
        x.start();
        x.step(0, 5);
        Check.due("abandon", x.abandon(), true);
        Check.due("all that shows", Loops.all(x), before);
        Loops.run(x);
        Check.due("scalar 0 after a whole run", x.scalar(0), 800);
        Check.due("cell 0 after a whole run", x.cell(0), 800);
    }

    private static void abandonWithoutARun() {
        Check.sentence("Promise 16", "false when no run is under way");
        LoopWorkers x = loop();
        Check.due("before any run", x.abandon(), false);
        x.start();
        x.abandon();
        Check.due("after abandon", x.abandon(), false);
        x.start();
        x.finish();
        Check.due("after finish", x.abandon(), false);
        hasRun("after it", x);
        LoopWorkers y = loop();
        y.start();
        y.step(0, 12);
        y.step(1, 12);
        Check.due("after the last statement", y.abandon(), false);
        hasRun("after it", y);
    }

    private static void abandonThenStartAnew() {
        Check.sentence("Promise 16", "Ends the run as if it had never been started");
        for (int n = 0; n <= 12; n++) {
            LoopWorkers x = loop();
            x.start();
            x.step(0, n);
            x.step(1, 7);
            x.abandon();
            Check.due("start", x.start(), true);
            Check.due("left of the new run", Loops.lefts(x), 12, 12, 0, 0);
            Check.due("step by worker 1", x.step(1, 100), 12);
            Check.due("step by worker 0", x.step(0, 100), 12);
            hasRun("after the new run", x);
        }
    }

    private static void abandonThenAnotherBody() {
        Check.sentence("Promise 16", "Ends the run as if it had never been started");
        LoopWorkers x = Loops.with(4, 4, new int[][] {{INDEX, 0, 0, 0}, {PLUS, 0, 0, 0}, {STORE, 0, 1, 0}});
        x.start();
        x.step(0, 5);
        x.abandon();
        x.drop();
        x.drop();
        Loops.fill(x);
        x.start();
        Check.due("left, now that it is parallel", Loops.lefts(x), 1, 1, 1, 1);
        x.step(2, 1);
        x.abandon();
        x.add(STORE, 0, 0, 9);
        x.start();
        Check.due("left, now that it is not", Loops.lefts(x), 8, 0, 0, 0);
        x.finish();
        int[] want = Loops.filledCells();
        want[9] = 106;
        Check.due("scalars", Loops.scalars(x), 106, 101, 102, 103);
        Check.due("cells", Loops.cells(x), want);
    }
}
