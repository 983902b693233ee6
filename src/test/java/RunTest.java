/** Promises 12 to 16: start, step, left, finish, abandon. */
public final class RunTest {
    private static final int SET = 0, LOAD = 1, STORE = 2, PLUS = 3, LEAST = 4, INDEX = 5;

    public static void main(String[] args) {
        start();
        startWithAnEmptyBody();
        startAgainGoesOnFromThere();
        shares();
        notParallelIsWorkerZeroAlone();
        notParallelComesToTheSame();
        stepCounts();
        stepByWrongWorkers();
        stepEndsTheRun();
        noRun();
        finish();
        finishAfterSteps();
        abandon();
        sumsWrap();
        everyOperation();
        lastIterationGivesTheLocal();
        leastOfWhicheverWorker();
        Check.end();
    }

    private static void start() {
        LoopWorkers x = with(4, 2, new int[][] {{INDEX, 0, 0, 0}, {SET, 1, 3, 0}});
        Check.due("start", x.start(), true);
        Check.due("start: left 0", x.left(0), 4);
        Check.due("start: left 1", x.left(1), 4);
        x.step(0, 3);
        Check.due("start: while under way", x.start(), false);
        Check.due("start: left 0 not changed", x.left(0), 1);
        Check.due("start: left 1 not changed", x.left(1), 4);
        x.finish();
        Check.due("start: the run was not disturbed", x.scalar(0), 6);
        Check.due("start: after the end", x.start(), true);
    }

    private static void startWithAnEmptyBody() {
        LoopWorkers x = new LoopWorkers(8, 4);
        x.setScalar(0, 5);
        for (int round = 0; round < 2; round++) {
            Check.due("empty: start", x.start(), true);
            Check.due("empty: no run, so start again", x.start(), true);
            Check.due("empty: no run, so drop", x.drop(), LoopWorkers.BAD);
            Check.due("empty: left", x.left(0), 0);
            Check.due("empty: step", x.step(0, 5), 0);
            Check.due("empty: finish", x.finish(), false);
            Check.due("empty: abandon", x.abandon(), false);
            Check.due("empty: no run, so setScalar", x.setScalar(1, 6), true);
        }
        Check.due("empty: drop", x.drop(), LoopWorkers.BAD);
        Check.due("empty: scalar", x.scalar(0), 5);
        Check.due("empty: add", x.add(SET, 0, 1, 0), 0);
    }

    private static void startAgainGoesOnFromThere() {
        LoopWorkers x = with(4, 3, new int[][] {{INDEX, 0, 0, 0}});
        for (int round = 1; round <= 5; round++) {
            x.start();
            x.finish();
            Check.due("run " + round, x.scalar(0), 6 * round);
        }
    }

    private static void shares() {
        for (int iterations = 1; iterations <= 8; iterations++) {
            for (int workers = 1; workers <= 4; workers++) {
                LoopWorkers x = with(iterations, workers, new int[][] {{SET, 0, 1, 0}, {STORE, 0, 1, 0}, {INDEX, 1, 0, 0}});
                x.start();
                for (int w = 0; w < workers; w++) {
                    int share = ((w + 1) * iterations) / workers - (w * iterations) / workers;
                    String what = iterations + " iterations, " + workers + " workers, worker " + w;
                    Check.due("share: " + what, x.left(w), 3 * share);
                    if (share > 0 && w < workers - 1) {
                        Check.due("step: " + what, x.step(w, 1), 1);
                        Check.due("left: " + what, x.left(w), 3 * share - 1);
                    }
                }
                x.finish();
                Check.due("sum over " + iterations, x.scalar(1), iterations * (iterations - 1) / 2);
                for (int k = 0; k < 16; k++) {
                    Check.due("cell " + k + " of " + iterations, x.cell(k), k < iterations ? 1 : 0);
                }
            }
        }
    }

    private static void notParallelIsWorkerZeroAlone() {
        int[][][] bodies = {{{PLUS, 0, 0, 0}}, {{STORE, 0, 0, 2}}, {{LOAD, 0, 1, 0}, {STORE, 0, 1, 1}}};
        for (int[][] body : bodies) {
            LoopWorkers x = with(7, 4, body);
            x.start();
            Check.due("alone: left 0", x.left(0), 7 * body.length);
            for (int w = 1; w < 4; w++) {
                Check.due("alone: left " + w, x.left(w), 0);
                Check.due("alone: step " + w, x.step(w, 100), 0);
            }
            Check.due("alone: step 0", x.step(0, 100), 7 * body.length);
            Check.due("alone: the run has ended", x.finish(), false);
        }
    }

    /** Scalars of every role, in a loop that a clash of cells leaves to worker 0. */
    private static void notParallelComesToTheSame() {
        for (int workers = 1; workers <= 4; workers++) {
            LoopWorkers x = with(5, workers, new int[][] {
                {LOAD, 0, 1, 0}, {PLUS, 0, 3, 0}, {STORE, 0, 1, 1}, {PLUS, 1, 0, 0}, {LEAST, 2, 0, 0}});
            x.setScalar(1, 1000);
            x.setScalar(2, 50);
            x.setScalar(3, 10);
            x.setCell(0, 3);
            x.start();
            x.step(0, 7);
            x.finish();
            Check.due("not parallel: LOCAL", x.scalar(0), 53);
            Check.due("not parallel: SUM", x.scalar(1), 1165);
            Check.due("not parallel: MINIMUM", x.scalar(2), 13);
            Check.due("not parallel: SHARED", x.scalar(3), 10);
            for (int k = 0; k < 16; k++) {
                Check.due("not parallel: cell " + k, x.cell(k), k <= 5 ? 10 * k + 3 : 0);
            }
        }
    }

    private static void stepCounts() {
        LoopWorkers x = with(6, 2, new int[][] {{INDEX, 0, 0, 0}, {SET, 1, 3, 0}});
        x.start();
        Check.due("step 0", x.step(0, 0), 0);
        Check.due("step -1", x.step(0, -1), 0);
        Check.due("step of the least int", x.step(0, Integer.MIN_VALUE), 0);
        Check.due("step: nothing was carried out", x.left(0), 6);
        Check.due("step 1", x.step(0, 1), 1);
        Check.due("step 4", x.step(0, 4), 4);
        Check.due("step: one is left", x.left(0), 1);
        Check.due("step 2 of 1", x.step(0, 2), 1);
        Check.due("step: none is left", x.left(0), 0);
        Check.due("step 2 of none", x.step(0, 2), 0);
        Check.due("step: the other has all its own", x.left(1), 6);
        Check.due("step of the greatest int", x.step(1, Integer.MAX_VALUE), 6);
        Check.due("step: the sum", x.scalar(0), 15);
    }

    private static void stepByWrongWorkers() {
        for (int workers = 1; workers <= 4; workers++) {
            LoopWorkers x = with(8, workers, new int[][] {{INDEX, 0, 0, 0}});
            x.start();
            for (int wrong : new int[] {Integer.MIN_VALUE, -1, workers, workers + 1, Integer.MAX_VALUE}) {
                Check.due("step of worker " + wrong + " of " + workers, x.step(wrong, 5), 0);
                Check.due("left of worker " + wrong + " of " + workers, x.left(wrong), 0);
            }
            int all = 0;
            for (int w = 0; w < workers; w++) {
                all += x.left(w);
            }
            Check.due("left by " + workers, all, 8);
        }
    }

    private static void stepEndsTheRun() {
        LoopWorkers x = with(5, 3, new int[][] {{INDEX, 0, 0, 0}, {SET, 1, 9, 0}, {STORE, 1, 2, 0}});
        x.setScalar(0, 100);
        x.start();
        // Iterations 0 | 1, 2 | 3, 4: all the last worker has, then the others in turn.
        int[] turns = {2, 2, 2, 2, 2, 2, 1, 0, 1, 0, 1, 0, 1, 1, 1};
        for (int w : turns) {
            Check.due("not ended: scalar 0", x.scalar(0), 100);
            Check.due("not ended: cell 8", x.cell(8), 0);
            Check.due("not ended: setCell", x.setCell(15, 1), false);
            Check.due("step of " + w, x.step(w, 1), 1);
        }
        Check.due("ended: scalar 0", x.scalar(0), 110);
        Check.due("ended: cell 8", x.cell(8), 9);
        Check.due("ended: left", x.left(0) + x.left(1) + x.left(2), 0);
        Check.due("ended: step", x.step(0, 1), 0);
        Check.due("ended: finish", x.finish(), false);
        Check.due("ended: abandon", x.abandon(), false);
        Check.due("ended: setCell", x.setCell(15, 1), true);
    }

    private static void noRun() {
        LoopWorkers x = with(5, 3, new int[][] {{INDEX, 0, 0, 0}});
        for (int w = -1; w <= 4; w++) {
            Check.due("no run: step", x.step(w, 5), 0);
            Check.due("no run: left", x.left(w), 0);
        }
        Check.due("no run: finish", x.finish(), false);
        Check.due("no run: abandon", x.abandon(), false);
        Check.due("no run: scalar", x.scalar(0), 0);
    }

    private static void finish() {
        LoopWorkers x = with(8, 4, new int[][] {{LOAD, 0, 2, 0}, {INDEX, 0, 0, 0}, {STORE, 0, 2, 1}, {LEAST, 1, 0, 0}});
        for (int k = 0; k < 16; k++) {
            x.setCell(k, -k);
        }
        x.start();
        Check.due("finish", x.finish(), true);
        for (int i = 0; i < 8; i++) {
            Check.due("finish: cell " + 2 * i, x.cell(2 * i), -2 * i);
            Check.due("finish: cell " + (2 * i + 1), x.cell(2 * i + 1), -i);
        }
        Check.due("finish: scalar 0", x.scalar(0), -7);
        Check.due("finish: scalar 1", x.scalar(1), -7);
        Check.due("finish: left", x.left(0), 0);
        Check.due("finish: again", x.finish(), false);
        Check.due("finish: abandon after it", x.abandon(), false);
        Check.due("finish: drop after it", x.drop(), 3);
    }

    private static void finishAfterSteps() {
        for (int n = 0; n < 24; n++) {
            LoopWorkers x = with(6, 2, new int[][] {{LOAD, 0, 1, 0}, {PLUS, 1, 0, 0}, {STORE, 0, -1, 15}, {LEAST, 2, 0, 0}});
            for (int k = 0; k < 6; k++) {
                x.setCell(k, 3 - k);
            }
            x.start();
            x.step(1, n / 2);
            x.step(0, n - n / 2);
            Check.due("finish after " + n, x.finish(), true);
            Check.due("finish after " + n + ": sum", x.scalar(1), 3);
            Check.due("finish after " + n + ": minimum", x.scalar(2), -2);
            Check.due("finish after " + n + ": local", x.scalar(0), -2);
            Check.due("finish after " + n + ": cell 15", x.cell(15), 3);
            Check.due("finish after " + n + ": cell 10", x.cell(10), -2);
        }
    }

    private static void abandon() {
        LoopWorkers x = with(4, 2, new int[][] {{INDEX, 0, 0, 0}, {SET, 1, 5, 0}, {STORE, 1, 1, 0}});
        x.setScalar(0, 10);
        x.setCell(3, 20);
        for (int n = 0; n < 6; n++) {
            x.start();
            x.step(0, n);
            x.step(1, 5);
            Check.due("abandon after " + n, x.abandon(), true);
            Check.due("abandon: again", x.abandon(), false);
            Check.due("abandon: finish after it", x.finish(), false);
            Check.due("abandon: step after it", x.step(0, 1), 0);
            Check.due("abandon: left after it", x.left(0), 0);
            Check.due("abandon: scalar 0", x.scalar(0), 10);
            Check.due("abandon: scalar 1", x.scalar(1), 0);
            Check.due("abandon: cell 0", x.cell(0), 0);
            Check.due("abandon: cell 3", x.cell(3), 20);
            Check.due("abandon: length", x.length(), 3);
        }
        Check.due("abandon: start after it", x.start(), true);
        Check.due("abandon: a new run is whole, 0", x.left(0), 6);
        Check.due("abandon: a new run is whole, 1", x.left(1), 6);
        x.finish();
        Check.due("abandon: nothing of the abandoned runs is left", x.scalar(0), 16);
        Check.due("abandon: cell 3 after a whole run", x.cell(3), 5);
    }

    private static void sumsWrap() {
        LoopWorkers x = with(8, 4, new int[][] {{PLUS, 0, 1, 0}, {INDEX, 2, 0, 0}});
        x.setScalar(0, Integer.MAX_VALUE);
        x.setScalar(1, Integer.MAX_VALUE);
        x.setScalar(2, Integer.MAX_VALUE - 1);
        x.start();
        x.finish();
        Check.due("wrap: PLUS", x.scalar(0), Integer.MAX_VALUE - 8);
        Check.due("wrap: INDEX", x.scalar(2), Integer.MIN_VALUE + 26);
        LoopWorkers y = with(3, 1, new int[][] {{PLUS, 0, 0, 0}});
        y.setScalar(0, 1 << 29);
        y.start();
        y.finish();
        Check.due("wrap: doubled", y.scalar(0), 0);
    }

    private static void everyOperation() {
        LoopWorkers x = with(3, 1, new int[][] {{SET, 0, -9, 0}, {LOAD, 1, 1, 2}, {STORE, 1, -2, 15}, {PLUS, 2, 1, 0}, {LEAST, 3, 0, 0}, {INDEX, 2, 0, 0}});
        x.setCell(2, 100);
        x.setCell(3, 200);
        x.setCell(4, 300);
        x.setScalar(3, -8);
        x.start();
        x.finish();
        Check.due("SET", x.scalar(0), -9);
        Check.due("LOAD", x.scalar(1), 300);
        Check.due("STORE at 0", x.cell(15), 100);
        Check.due("STORE at 1", x.cell(13), 200);
        Check.due("STORE at 2", x.cell(11), 300);
        Check.due("PLUS and INDEX", x.scalar(2), 603);
        Check.due("LEAST", x.scalar(3), -9);
        x.drop();
        x.setScalar(3, Integer.MIN_VALUE);
        x.start();
        x.finish();
        Check.due("LEAST keeps the lesser", x.scalar(3), Integer.MIN_VALUE);
    }

    /** Whichever worker comes last, the last iteration tells. */
    private static void lastIterationGivesTheLocal() {
        for (int iterations = 1; iterations <= 8; iterations++) {
            for (int workers = 1; workers <= 4; workers++) {
                LoopWorkers x = with(iterations, workers, new int[][] {{SET, 0, 10, 0}, {INDEX, 0, 0, 0}});
                x.start();
                for (int w = workers - 1; w >= 0; w--) {
                    x.step(w, 100);
                }
                Check.due("local after " + iterations + " on " + workers, x.scalar(0), 10 + iterations - 1);
            }
        }
    }

    private static void leastOfWhicheverWorker() {
        for (int at = 0; at < 8; at++) {
            LoopWorkers x = with(8, 4, new int[][] {{LOAD, 0, 1, 0}, {LEAST, 1, 0, 0}});
            x.setCell(at, -5);
            x.start();
            x.finish();
            Check.due("the least is in cell " + at, x.scalar(1), -5);
            x.setScalar(1, -6);
            x.start();
            x.finish();
            Check.due("the least was there before", x.scalar(1), -6);
        }
    }

    private static LoopWorkers with(int iterations, int workers, int[][] body) {
        LoopWorkers x = new LoopWorkers(iterations, workers);
        for (int p = 0; p < body.length; p++) {
            Check.due("add", x.add(body[p][0], body[p][1], body[p][2], body[p][3]), p);
        }
        return x;
    }
}
