import java.util.ArrayList;
import java.util.List;

/** The first line of the document, and what it says of objects and calls as such. */
public final class ObjectTest {
    private static final int SET = 0, LOAD = 1, STORE = 2, PLUS = 3, LEAST = 4, INDEX = 5;
    private static final int ITERATIONS = 5;
    private static final int MOST_PRINTED = 20;

    public static void main(String[] args) {
        makesNoDifference();
        the512thCall();
        the512thCallInARun();
        noCallThrows();
        objectsAreApart();
        objectsAreApartInTheirRuns();
        lookingChangesNothing();
        Check.end();
    }

    /** Every body of one to three statements out of some, on every number of workers. */
    private static void makesNoDifference() {
        Check.sentence("What it is", "Runs a counted loop on several workers when that makes no difference");
        List<int[]> some = statements();
        for (int[] first : some) {
            // What begins with another scalar is the same but for its name.
            if (first[1] == 0) {
                makesNoDifference(first);
                for (int[] second : some) {
                    makesNoDifference(first, second);
                    for (int[] third : some) {
                        makesNoDifference(first, second, third);
                    }
                }
            }
        }
    }

    private static List<int[]> statements() {
        int[][] cells = {{1, 0}, {1, 1}, {-1, 7}, {0, 3}, {2, 0}};
        List<int[]> some = new ArrayList<>();
        for (int x = 0; x < 3; x++) {
            some.add(new int[] {SET, x, 7, 0});
            some.add(new int[] {INDEX, x, 0, 0});
            for (int[] c : cells) {
                some.add(new int[] {LOAD, x, c[0], c[1]});
                some.add(new int[] {STORE, x, c[0], c[1]});
            }
            for (int a = 0; a < 3; a++) {
                some.add(new int[] {PLUS, x, a, 0});
                some.add(new int[] {LEAST, x, a, 0});
            }
        }
        return some;
    }

    private static void makesNoDifference(int[]... body) {
        if (Check.wrong() >= MOST_PRINTED) {
            return;
        }
        int[] scalars = Loops.filledScalars();
        int[] cells = Loops.filledCells();
        PlainLoop.carryOut(List.of(body), ITERATIONS, scalars, cells);
        for (int workers = 1; workers <= 4; workers++) {
            LoopWorkers x = Loops.with(ITERATIONS, workers, body);
            Loops.fill(x);
            x.start();
            // The last worker goes first, and none gets through at once.
            for (int n = 4 * workers - 1; n >= 0; n--) {
                x.step(n % workers, 2);
            }
            x.finish();
            Check.due("scalars on " + workers, Loops.scalars(x), scalars);
            Check.due("cells on " + workers, Loops.cells(x), cells);
        }
    }

    /** One statement, and 255 runs of it: 511 calls. */
    private static LoopWorkers worn() {
        LoopWorkers x = new LoopWorkers(8, 4);
        x.add(INDEX, 0, 0, 0);
        for (int n = 0; n < 255; n++) {
            x.start();
            x.finish();
        }
        return x;
    }

    private static void the512thCall() {
        Check.sentence("What it is", "An object is used for at most 512 calls after it has been made");
        Check.due("add", worn().add(STORE, 0, 1, 8), 1);
        Check.due("drop", worn().drop(), 0);
        Check.due("length", worn().length(), 1);
        Check.due("setScalar", worn().setScalar(3, 1), true);
        Check.due("setCell", worn().setCell(15, 1), true);
        Check.due("scalar", worn().scalar(0), 255 * 28);
        Check.due("cell", worn().cell(0), 0);
        Check.due("role", worn().role(0), LoopWorkers.SUM);
        Check.due("clash", worn().clash(0, 0), false);
        Check.due("parallel", worn().parallel(), true);
        Check.due("start", worn().start(), true);
        Check.due("step", worn().step(0, 1), 0);
        Check.due("left", worn().left(0), 0);
        Check.due("finish", worn().finish(), false);
        Check.due("abandon", worn().abandon(), false);
    }

    /** Two statements, and a run in which worker 3 has one left: 511 calls. */
    private static LoopWorkers wornInARun() {
        LoopWorkers x = new LoopWorkers(8, 4);
        x.add(SET, 0, 5, 0);
        x.add(STORE, 0, 1, 8);
        x.start();
        for (int n = 0; n < 504; n++) {
            x.step(0, 0);
        }
        x.step(3, 3);
        x.step(0, 4);
        x.step(1, 4);
        x.step(2, 4);
        return x;
    }

    private static void the512thCallInARun() {
        Check.sentence("What it is", "An object is used for at most 512 calls after it has been made");
        Check.due("add", wornInARun().add(SET, 0, 0, 0), LoopWorkers.BUSY);
        Check.due("drop", wornInARun().drop(), LoopWorkers.BUSY);
        Check.due("length", wornInARun().length(), 2);
        Check.due("setScalar", wornInARun().setScalar(0, 1), false);
        Check.due("setCell", wornInARun().setCell(0, 1), false);
        Check.due("scalar", wornInARun().scalar(0), 0);
        Check.due("cell", wornInARun().cell(8), 0);
        Check.due("role", wornInARun().role(0), LoopWorkers.LOCAL);
        Check.due("clash", wornInARun().clash(1, 1), false);
        Check.due("parallel", wornInARun().parallel(), true);
        Check.due("start", wornInARun().start(), false);
        Check.due("step", wornInARun().step(3, 9), 1);
        Check.due("left", wornInARun().left(3), 1);
        Check.due("finish", wornInARun().finish(), true);
        Check.due("abandon", wornInARun().abandon(), true);
    }

    /** The calls go on far beyond the 512th, so that no answer is looked at. */
    private static void noCallThrows() {
        Check.sentence("LANGUAGE.md, rule 7", "No call may ever throw or fail to end, for any arguments in any state");
        int[] edges = {Integer.MIN_VALUE, -17, -3, -1, 0, 1, 2, 4, 5, 6, 15, 16, Integer.MAX_VALUE};
        LoopWorkers x = worn();
        int rounds = 0;
        for (int u : edges) {
            for (int v : edges) {
                LoopWorkers made = new LoopWorkers(u, v);
                callAll(made, u, v);
                callAll(x, u, v);
                x.drop();
                x.start();
                callAll(x, v, u);
                x.abandon();
                rounds++;
            }
        }
        Check.due("rounds that came to their end", rounds, edges.length * edges.length);
    }

    private static void callAll(LoopWorkers x, int u, int v) {
        for (int op = -1; op <= 6; op++) {
            x.add(op, u, v, v);
            x.add(op, 1, u, v);
        }
        x.setScalar(u, v);
        x.setCell(u, v);
        x.start();
        x.step(u, v);
        x.step(0, v);
        x.left(u);
        Loops.all(x);
        x.scalar(u);
        x.cell(u);
        x.role(u);
        x.clash(u, v);
        x.finish();
    }

    private static void objectsAreApart() {
        Check.sentence("Promise 1", "An empty body, no run");
        LoopWorkers one = Loops.with(3, 2, new int[][] {{STORE, 0, 1, 0}, {INDEX, 0, 0, 0}});
        LoopWorkers other = Loops.with(8, 4, new int[][] {{LOAD, 1, 1, 0}});
        Loops.fill(one);
        int[] before = Loops.all(one);
        other.add(PLUS, 2, 1, 0);
        other.setScalar(0, -5);
        other.setCell(0, -6);
        Loops.run(other);
        other.drop();
        new LoopWorkers(1, 1);
        Check.due("all that shows of the one", Loops.all(one), before);
        LoopWorkers third = new LoopWorkers(8, 4);
        Check.due("all that shows of a third", Loops.all(third), Loops.all(new LoopWorkers(8, 4)));
        Check.due("length of the third", third.length(), 0);
        Check.due("scalars of the third", Loops.scalars(third), 0, 0, 0, 0);
        Check.due("cells of the third", Loops.cells(third), new int[16]);
    }

    private static void objectsAreApartInTheirRuns() {
        Check.sentence("Promise 12", "Starts a run and answers true");
        LoopWorkers one = Loops.counting(8, 4);
        LoopWorkers other = Loops.with(6, 2, new int[][] {{PLUS, 0, 0, 0}, {STORE, 0, 0, 1}});
        other.setScalar(0, 1);
        Check.due("start of the one", one.start(), true);
        Check.due("left of the other", Loops.lefts(other), 0, 0, 0, 0);
        Check.due("start of the other", other.start(), true);
        Check.due("step of the other", other.step(0, 5), 5);
        Check.due("left of the one", Loops.lefts(one), 2, 2, 2, 2);
        Check.due("finish of the one", one.finish(), true);
        Check.due("left of the other", Loops.lefts(other), 7, 0, 0, 0);
        Check.due("step of the other", other.step(0, 9), 7);
        Check.due("scalars of the one", Loops.scalars(one), 28, 0, 0, 0);
        Check.due("cells of the one", Loops.cells(one), new int[16]);
        Check.due("scalars of the other", Loops.scalars(other), 64, 0, 0, 0);
        Check.due("cell 1 of the other", other.cell(1), 64);
    }

    private static void lookingChangesNothing() {
        Check.sentence("Not promised", "Nothing is promised beyond the answers and state changes described above");
        LoopWorkers x = Loops.with(8, 4, new int[][] {{LOAD, 0, 1, 0}, {PLUS, 1, 0, 0}, {STORE, 0, 1, 8}});
        Loops.fill(x);
        int[] before = Loops.all(x);
        Check.due("all, looked at again", Loops.all(x), before);
        x.start();
        x.step(1, 4);
        int[] within = Loops.all(x);
        Check.due("all in the run, looked at again", Loops.all(x), within);
        x.finish();
        Check.due("scalar 1", x.scalar(1), 101 - 8 * 200 + 28);
    }
}
