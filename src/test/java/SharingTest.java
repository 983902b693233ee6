/** A test for every sentence of "Terms" about a RUN. */
public final class SharingTest {
    private static final int SET = 0, LOAD = 1, STORE = 2, PLUS = 3, LEAST = 4, INDEX = 5;

    /** Parallel, and with a scalar of every role but CARRIED: 0 LOCAL, 1 SUM, 2 MINIMUM, 3 SHARED. */
    private static final int[][] EVERY_ROLE = {
        {LOAD, 0, 1, 0}, {PLUS, 0, 3, 0}, {STORE, 0, 1, 8}, {PLUS, 1, 0, 0}, {LEAST, 2, 0, 0}, {INDEX, 1, 0, 0}};

    public static void main(String[] args) {
        sharesAreRoundedDown();
        fewerIterationsThanWorkers();
        notParallelIsForWorkerZero();
        iterationsInTheirOrder();
        endsWhenAllHaveCarriedEverythingOut();
        sameResultWhoeverGoesFirst();
        sameResultInAnyTurns();
        sumWithoutAnyWorkBetween();
        minimumThatWasThereBefore();
        localOfTheLastIteration();
        sharedAndUnusedAreKept();
        cellsThatNoStatementStores();
        notParallelComesToTheSame();
        nextRunStartsFromTheResult();
        untilThenTheyShowWhatTheyWere();
        Check.end();
    }

    private static void sharesAreRoundedDown() {
        Check.sentence("Terms", "from (w * iterations) / workers to ((w + 1) * iterations) / workers - 1 (quotients rounded down)");
        int[][] shares = {{8, 0, 0, 0}, {4, 4, 0, 0}, {2, 3, 3, 0}, {2, 2, 2, 2}};
        for (int workers = 1; workers <= 4; workers++) {
            hasShares(8, workers, shares[workers - 1]);
        }
        int[][] onTwo = {{0, 1, 0, 0}, {1, 1, 0, 0}, {1, 2, 0, 0}, {2, 2, 0, 0}, {2, 3, 0, 0}, {3, 3, 0, 0}, {3, 4, 0, 0}};
        int[][] onThree = {{0, 0, 1, 0}, {0, 1, 1, 0}, {1, 1, 1, 0}, {1, 1, 2, 0}, {1, 2, 2, 0}, {2, 2, 2, 0}, {2, 2, 3, 0}};
        int[][] onFour = {{0, 0, 0, 1}, {0, 1, 0, 1}, {0, 1, 1, 1}, {1, 1, 1, 1}, {1, 1, 1, 2}, {1, 2, 1, 2}, {1, 2, 2, 2}};
        for (int iterations = 1; iterations <= 7; iterations++) {
            hasShares(iterations, 2, onTwo[iterations - 1]);
            hasShares(iterations, 3, onThree[iterations - 1]);
            hasShares(iterations, 4, onFour[iterations - 1]);
        }
    }

    private static void hasShares(int iterations, int workers, int... want) {
        LoopWorkers x = Loops.counting(iterations, workers);
        x.start();
        Check.due(iterations + " iterations on " + workers, Loops.lefts(x), want);
    }

    private static void fewerIterationsThanWorkers() {
        Check.sentence("Terms", "worker w has the iterations from (w * iterations) / workers on");
        LoopWorkers x = Loops.with(2, 4, new int[][] {{SET, 0, 5, 0}, {INDEX, 0, 0, 0}, {STORE, 0, 1, 0}});
        x.start();
        Check.due("left, of three statements", Loops.lefts(x), 0, 3, 0, 3);
        Check.due("step of one without a share", x.step(0, 9), 0);
        Check.due("step of the other without a share", x.step(2, 9), 0);
        Check.due("step of the last", x.step(3, 9), 3);
        Check.due("step of the second", x.step(1, 9), 3);
        Check.due("scalar 0", x.scalar(0), 6);
        Check.due("cell 0", x.cell(0), 5);
        Check.due("cell 1", x.cell(1), 6);
    }

    private static void notParallelIsForWorkerZero() {
        Check.sentence("Terms", "otherwise worker 0 has all of them");
        int[][][] bodies = {{{PLUS, 0, 0, 0}}, {{STORE, 0, 0, 2}}, {{LOAD, 0, 1, 0}, {STORE, 0, 1, 1}}};
        for (int[][] body : bodies) {
            for (int workers = 1; workers <= 4; workers++) {
                LoopWorkers x = Loops.with(7, workers, body);
                x.start();
                Check.due("left", Loops.lefts(x), 7 * body.length, 0, 0, 0);
                for (int w = 1; w < 4; w++) {
                    Check.due("step of worker " + w, x.step(w, 100), 0);
                }
                Check.due("step of worker 0", x.step(0, 100), 7 * body.length);
                Check.due("finish, as the run has ended", x.finish(), false);
            }
        }
    }

    private static void iterationsInTheirOrder() {
        Check.sentence("Terms", "A worker carries its iterations out in their order");
        LoopWorkers x = Loops.with(8, 4, new int[][] {{INDEX, 0, 0, 0}, {PLUS, 0, 0, 0}, {STORE, 0, 2, 1}});
        x.start();
        for (int n = 0; n < 24; n++) {
            x.step(0, 1);
        }
        int sum = 0;
        for (int i = 0; i < 8; i++) {
            sum = 2 * (sum + i);
            Check.due("cell of iteration " + i, x.cell(2 * i + 1), sum);
        }
        Check.due("scalar 0", x.scalar(0), sum);
    }

    private static void endsWhenAllHaveCarriedEverythingOut() {
        Check.sentence("Terms", "When all workers have carried everything out, the run ends");
        for (int last = 0; last < 4; last++) {
            LoopWorkers x = Loops.counting(8, 4);
            x.start();
            for (int w = 0; w < 4; w++) {
                x.step(w, w == last ? 1 : 2);
            }
            Check.due("add while worker " + last + " has one left", x.add(SET, 1, 0, 0), LoopWorkers.BUSY);
            Check.due("scalar 0 before the end", x.scalar(0), 0);
            Check.due("the last statement", x.step(last, 1), 1);
            Check.due("scalar 0 after the end", x.scalar(0), 28);
            Check.due("add after the end", x.add(SET, 1, 0, 0), 1);
        }
    }

    /** What carrying EVERY_ROLE out one iteration after the other makes of a filled loop. */
    private static void cameOutRight(String what, LoopWorkers x, int iterations) {
        int[] want = Loops.filledCells();
        int sum = 101;
        for (int i = 0; i < iterations; i++) {
            want[8 + i] = i - 200 + 103;
            sum += i - 200 + 103 + i;
        }
        Check.due("cells " + what, Loops.cells(x), want);
        Check.due("scalars " + what, Loops.scalars(x), iterations - 1 - 200 + 103, sum, -200 + 103, 103);
    }

    private static void sameResultWhoeverGoesFirst() {
        Check.sentence("Terms", "scalars and cells then are what carrying the body out one iteration after the other makes of them");
        for (int iterations = 1; iterations <= 8; iterations++) {
            for (int workers = 1; workers <= 4; workers++) {
                for (int first = 0; first < workers; first++) {
                    LoopWorkers x = Loops.with(iterations, workers, EVERY_ROLE);
                    Loops.fill(x);
                    x.start();
                    for (int n = 0; n < workers; n++) {
                        x.step((first + workers - n) % workers, 100);
                    }
                    cameOutRight(iterations + " iterations on " + workers + " from " + first, x, iterations);
                }
            }
        }
    }

    private static void sameResultInAnyTurns() {
        Check.sentence("Terms", "scalars and cells then are what carrying the body out one iteration after the other makes of them");
        for (int n = 1; n <= 13; n++) {
            LoopWorkers x = Loops.with(8, 4, EVERY_ROLE);
            Loops.fill(x);
            x.start();
            for (int turn = 0; turn < 48; turn++) {
                x.step((turn * 3) % 4, n);
            }
            cameOutRight("in turns of " + n, x, 8);
        }
    }

    private static void sumWithoutAnyWorkBetween() {
        Check.sentence("Terms", "scalars and cells then are what carrying the body out one iteration after the other makes of them");
        for (int workers = 1; workers <= 4; workers++) {
            // Nothing is added: what was there before must count once, not once a worker.
            LoopWorkers x = Loops.with(8, workers, new int[][] {{PLUS, 0, 1, 0}});
            x.setScalar(0, 7);
            Loops.run(x);
            Check.due("a SUM of nothing on " + workers, x.scalar(0), 7);
            x.setScalar(0, 0);
            x.setScalar(1, -3);
            Loops.run(x);
            Check.due("a SUM below 0 on " + workers, x.scalar(0), -24);
        }
    }

    private static void minimumThatWasThereBefore() {
        Check.sentence("Terms", "scalars and cells then are what carrying the body out one iteration after the other makes of them");
        for (int at = 0; at < 8; at++) {
            LoopWorkers x = Loops.with(8, 4, new int[][] {{LOAD, 0, 1, 0}, {LEAST, 1, 0, 0}});
            Loops.fill(x);
            x.setScalar(1, Integer.MAX_VALUE);
            x.setCell(at, -500);
            Loops.run(x);
            Check.due("the least is in cell " + at, x.scalar(1), -500);
            x.setScalar(1, -600);
            Loops.run(x);
            Check.due("the least was there before", x.scalar(1), -600);
            x.setScalar(1, -500);
            Loops.run(x);
            Check.due("the least was there and is in a cell", x.scalar(1), -500);
        }
    }

    private static void localOfTheLastIteration() {
        Check.sentence("Terms", "scalars and cells then are what carrying the body out one iteration after the other makes of them");
        for (int iterations = 1; iterations <= 8; iterations++) {
            for (int workers = 1; workers <= 4; workers++) {
                LoopWorkers x = Loops.with(iterations, workers, new int[][] {{SET, 0, 10, 0}, {INDEX, 0, 0, 0}});
                x.start();
                for (int w = workers - 1; w >= 0; w--) {
                    x.step(w, 100);
                }
                Check.due("scalar 0, " + iterations + " iterations on " + workers, x.scalar(0), 10 + iterations - 1);
            }
        }
    }

    private static void sharedAndUnusedAreKept() {
        Check.sentence("Terms", "scalars and cells then are what carrying the body out one iteration after the other makes of them");
        for (int workers = 1; workers <= 4; workers++) {
            LoopWorkers x = Loops.with(8, workers, new int[][] {{STORE, 1, 1, 0}, {PLUS, 0, 2, 0}});
            Loops.fill(x);
            Loops.run(x);
            Check.due("scalars on " + workers, Loops.scalars(x), 100 + 8 * 102, 101, 102, 103);
        }
    }

    private static void cellsThatNoStatementStores() {
        Check.sentence("Terms", "scalars and cells then are what carrying the body out one iteration after the other makes of them");
        LoopWorkers x = Loops.with(4, 4, new int[][] {{STORE, 0, 1, 6}});
        Loops.fill(x);
        Loops.run(x);
        int[] want = Loops.filledCells();
        for (int k = 6; k < 10; k++) {
            want[k] = 100;
        }
        Check.due("cells", Loops.cells(x), want);
    }

    /** Scalars of every role, in a loop that a clash of cells leaves to worker 0. */
    private static void notParallelComesToTheSame() {
        Check.sentence("Terms", "scalars and cells then are what carrying the body out one iteration after the other makes of them");
        for (int workers = 1; workers <= 4; workers++) {
            LoopWorkers x = Loops.with(5, workers, new int[][] {
                {LOAD, 0, 1, 0}, {PLUS, 0, 3, 0}, {STORE, 0, 1, 1}, {PLUS, 1, 0, 0}, {LEAST, 2, 0, 0}});
            x.setScalar(1, 1000);
            x.setScalar(2, 50);
            x.setScalar(3, 10);
            x.setCell(0, 3);
            x.start();
            x.step(0, 7);
            x.finish();
            Check.due("scalars on " + workers, Loops.scalars(x), 53, 1165, 13, 10);
            for (int k = 0; k < 16; k++) {
                Check.due("cell " + k + " on " + workers, x.cell(k), k <= 5 ? 10 * k + 3 : 0);
            }
        }
    }

    private static void nextRunStartsFromTheResult() {
        Check.sentence("Terms", "what they were when the run was started");
        LoopWorkers x = Loops.counting(4, 3);
        for (int round = 1; round <= 5; round++) {
            Loops.run(x);
            Check.due("scalar 0 after run " + round, x.scalar(0), 6 * round);
        }
        x.setScalar(0, -1);
        Loops.run(x);
        Check.due("scalar 0 after it was set", x.scalar(0), 5);
        LoopWorkers y = Loops.with(4, 3, new int[][] {{LOAD, 0, 1, 0}, {PLUS, 0, 0, 0}, {STORE, 0, 1, 0}});
        y.setCell(3, 1);
        for (int round = 1; round <= 5; round++) {
            Loops.run(y);
            Check.due("cell 3 after run " + round, y.cell(3), 1 << round);
        }
        y.setCell(3, 5);
        Loops.run(y);
        Check.due("cell 3 after it was set", y.cell(3), 10);
    }

    private static void untilThenTheyShowWhatTheyWere() {
        Check.sentence("Terms", "Until then they show what they were when it was started");
        for (int last = 0; last < 4; last++) {
            LoopWorkers x = Loops.with(4, 4, EVERY_ROLE);
            Loops.fill(x);
            x.start();
            for (int n = 0; n < 4; n++) {
                int w = (last + 1 + n) % 4;
                x.step(w, w == last ? 5 : 6);
                Check.due("scalars while worker " + last + " has some left", Loops.scalars(x), Loops.filledScalars());
                Check.due("cells while worker " + last + " has some left", Loops.cells(x), Loops.filledCells());
            }
            Check.due("the last statement", x.step(last, 1), 1);
            cameOutRight("after the last of worker " + last, x, 4);
        }
        LoopWorkers alone = Loops.with(3, 4, new int[][] {{PLUS, 0, 0, 0}, {STORE, 0, 0, 0}});
        Loops.fill(alone);
        alone.start();
        for (int n = 0; n < 5; n++) {
            alone.step(0, 1);
            Check.due("scalars of a lone run", Loops.scalars(alone), Loops.filledScalars());
            Check.due("cells of a lone run", Loops.cells(alone), Loops.filledCells());
        }
        alone.step(0, 1);
        Check.due("scalar 0 of a lone run that has ended", alone.scalar(0), 800);
        Check.due("cell 0 of a lone run that has ended", alone.cell(0), 800);
    }
}
