/** A test for every sentence of promises 5 to 8 (setScalar, setCell, scalar, cell). */
public final class StateTest {
    private static final int SET = 0, LOAD = 1, STORE = 2, INDEX = 5;
    private static final int MIN = Integer.MIN_VALUE, MAX = Integer.MAX_VALUE;
    private static final int[] NO_SCALARS = {MIN, MIN + 1, -16, -2, -1, 4, 5, 15, 16, 256, MAX};
    private static final int[] NO_CELLS = {MIN, MIN + 1, -16, -2, -1, 16, 17, 31, 256, MAX};

    public static void main(String[] args) {
        setScalarSetsThatOne();
        setScalarRefusesOthers();
        setScalarRefusedInARun();
        setScalarAroundARun();
        setScalarRefusedLeavesTheRunAlone();
        setCellSetsThatOne();
        setCellRefusesOthers();
        setCellRefusedInARun();
        setCellAroundARun();
        setCellRefusedLeavesTheRunAlone();
        scalarInARun();
        scalarOutside();
        scalarOutsideInARun();
        cellInARun();
        cellOutside();
        cellOutsideInARun();
        Check.end();
    }

    /** Changes every scalar and half of the cells, on two workers, in 32 statements. */
    private static LoopWorkers changing() {
        LoopWorkers x = Loops.with(8, 2, new int[][] {{SET, 0, 5, 0}, {STORE, 0, 2, 0}, {INDEX, 1, 0, 0}, {LOAD, 2, 2, 1}});
        Loops.fill(x);
        return x;
    }

    /** What changing() has become after a whole run. */
    private static void hasChanged(LoopWorkers x) {
        int[] want = Loops.filledCells();
        for (int k = 0; k < 16; k += 2) {
            want[k] = 5;
        }
        Check.due("cells after the run", Loops.cells(x), want);
        Check.due("scalars after the run", Loops.scalars(x), 5, 101 + 28, 15 - 200, 103);
    }

    private static void setScalarSetsThatOne() {
        Check.sentence("Promise 5", "Sets scalar x and answers true");
        for (int s = 0; s < 4; s++) {
            for (int v : new int[] {MIN, -1, 0, 1, MAX}) {
                LoopWorkers x = new LoopWorkers(8, 4);
                Loops.fill(x);
                int[] want = Loops.filledScalars();
                want[s] = v;
                Check.due("setScalar " + s, x.setScalar(s, v), true);
                Check.due("scalars", Loops.scalars(x), want);
                Check.due("cells", Loops.cells(x), Loops.filledCells());
            }
        }
    }

    private static void setScalarRefusesOthers() {
        Check.sentence("Promise 5", "false, changing nothing, when x is not 0 .. 3");
        LoopWorkers x = new LoopWorkers(8, 4);
        Loops.fill(x);
        for (int s : NO_SCALARS) {
            Check.due("setScalar " + s, x.setScalar(s, 9), false);
            Check.due("scalars", Loops.scalars(x), Loops.filledScalars());
            Check.due("cells", Loops.cells(x), Loops.filledCells());
        }
    }

    private static void setScalarRefusedInARun() {
        Check.sentence("Promise 5", "false, changing nothing, while a run is under way");
        LoopWorkers x = changing();
        x.start();
        for (int s = -1; s <= 4; s++) {
            Check.due("setScalar " + s, x.setScalar(s, 9), false);
            Check.due("scalars", Loops.scalars(x), Loops.filledScalars());
        }
        x.step(0, 16);
        x.step(1, 15);
        for (int s = -1; s <= 4; s++) {
            Check.due("setScalar " + s + " before the last statement", x.setScalar(s, 9), false);
            Check.due("scalars before the last statement", Loops.scalars(x), Loops.filledScalars());
        }
        x.step(1, 1);
        hasChanged(x);
    }

    private static void setScalarAroundARun() {
        Check.sentence("Promise 5", "false, changing nothing, while a run is under way");
        LoopWorkers x = changing();
        Check.due("before the run", x.setScalar(3, 1), true);
        x.start();
        Check.due("in the run", x.setScalar(3, 2), false);
        x.step(0, 16);
        x.step(1, 16);
        Check.due("after its last statement", x.setScalar(3, 3), true);
        x.start();
        x.finish();
        Check.due("after finish", x.setScalar(3, 4), true);
        x.start();
        x.abandon();
        Check.due("after abandon", x.setScalar(3, 5), true);
        Check.due("scalar 3", x.scalar(3), 5);
    }

    private static void setScalarRefusedLeavesTheRunAlone() {
        Check.sentence("Promise 5", "false, changing nothing, while a run is under way");
        for (int n = 0; n <= 16; n++) {
            LoopWorkers x = changing();
            x.start();
            x.step(0, n);
            x.step(1, 16 - n);
            for (int s = -1; s <= 4; s++) {
                x.setScalar(s, -77);
            }
            Check.due("left", Loops.lefts(x), 16 - n, n, 0, 0);
            x.finish();
            hasChanged(x);
        }
    }

    private static void setCellSetsThatOne() {
        Check.sentence("Promise 6", "Sets cell k and answers true");
        for (int k = 0; k < 16; k++) {
            for (int v : new int[] {MIN, -1, 0, 1, MAX}) {
                LoopWorkers x = new LoopWorkers(8, 4);
                Loops.fill(x);
                int[] want = Loops.filledCells();
                want[k] = v;
                Check.due("setCell " + k, x.setCell(k, v), true);
                Check.due("cells", Loops.cells(x), want);
                Check.due("scalars", Loops.scalars(x), Loops.filledScalars());
            }
        }
    }

    private static void setCellRefusesOthers() {
        Check.sentence("Promise 6", "false, changing nothing, when k is not 0 .. 15");
        LoopWorkers x = new LoopWorkers(8, 4);
        Loops.fill(x);
        for (int k : NO_CELLS) {
            Check.due("setCell " + k, x.setCell(k, 9), false);
            Check.due("cells", Loops.cells(x), Loops.filledCells());
            Check.due("scalars", Loops.scalars(x), Loops.filledScalars());
        }
    }

    private static void setCellRefusedInARun() {
        Check.sentence("Promise 6", "false, changing nothing, while a run is under way");
        LoopWorkers x = changing();
        x.start();
        for (int k : new int[] {-1, 0, 1, 14, 15, 16}) {
            Check.due("setCell " + k, x.setCell(k, 9), false);
            Check.due("cells", Loops.cells(x), Loops.filledCells());
        }
        x.step(1, 16);
        x.step(0, 15);
        for (int k = -1; k <= 16; k++) {
            Check.due("setCell " + k + " before the last statement", x.setCell(k, 9), false);
        }
        Check.due("cells before the last statement", Loops.cells(x), Loops.filledCells());
        x.step(0, 1);
        hasChanged(x);
    }

    private static void setCellAroundARun() {
        Check.sentence("Promise 6", "false, changing nothing, while a run is under way");
        LoopWorkers x = changing();
        Check.due("before the run", x.setCell(15, 1), true);
        x.start();
        Check.due("in the run", x.setCell(15, 2), false);
        x.step(0, 16);
        x.step(1, 16);
        Check.due("what the run loaded", x.scalar(2), 1);
        Check.due("after its last statement", x.setCell(15, 3), true);
        x.start();
        x.finish();
        Check.due("after finish", x.setCell(15, 4), true);
        x.start();
        x.abandon();
        Check.due("after abandon", x.setCell(15, 5), true);
        Check.due("cell 15", x.cell(15), 5);
    }

    private static void setCellRefusedLeavesTheRunAlone() {
        Check.sentence("Promise 6", "false, changing nothing, while a run is under way");
        for (int n = 0; n <= 16; n++) {
            LoopWorkers x = changing();
            x.start();
            x.step(0, n);
            x.step(1, 16 - n);
            for (int k = -1; k <= 16; k++) {
                x.setCell(k, -77);
            }
            Check.due("left", Loops.lefts(x), 16 - n, n, 0, 0);
            x.finish();
            hasChanged(x);
        }
    }

    private static void scalarInARun() {
        Check.sentence("Promise 7", "Scalar x (while a run is under way: as it was when that was started)");
        LoopWorkers x = changing();
        x.start();
        for (int n = 0; n < 32; n++) {
            Check.due("scalars after " + n + " statements", Loops.scalars(x), Loops.filledScalars());
            x.step(n % 2, 1);
        }
        hasChanged(x);
    }

    private static void scalarOutside() {
        Check.sentence("Promise 7", "0 when x is not 0 .. 3");
        LoopWorkers x = changing();
        for (int s : NO_SCALARS) {
            Check.due("scalar " + s, x.scalar(s), 0);
        }
        Check.due("scalars", Loops.scalars(x), Loops.filledScalars());
    }

    private static void scalarOutsideInARun() {
        Check.sentence("Promise 7", "0 when x is not 0 .. 3");
        LoopWorkers x = changing();
        x.start();
        x.step(0, 7);
        x.step(1, 7);
        for (int s : NO_SCALARS) {
            Check.due("scalar " + s + " in a run", x.scalar(s), 0);
        }
        x.finish();
        hasChanged(x);
    }

    private static void cellInARun() {
        Check.sentence("Promise 8", "Cell k (while a run is under way: as it was when that was started)");
        LoopWorkers x = changing();
        x.start();
        for (int n = 0; n < 16; n++) {
            Check.due("cells after " + 2 * n + " statements", Loops.cells(x), Loops.filledCells());
            x.step(n % 2, 2);
        }
        hasChanged(x);
    }

    private static void cellOutside() {
        Check.sentence("Promise 8", "0 when k is not 0 .. 15");
        LoopWorkers x = changing();
        for (int k : NO_CELLS) {
            Check.due("cell " + k, x.cell(k), 0);
        }
        Check.due("cells", Loops.cells(x), Loops.filledCells());
    }

    private static void cellOutsideInARun() {
        Check.sentence("Promise 8", "0 when k is not 0 .. 15");
        LoopWorkers x = changing();
        x.start();
        x.step(0, 7);
        x.step(1, 7);
        for (int k : NO_CELLS) {
            Check.due("cell " + k + " in a run", x.cell(k), 0);
        }
        x.finish();
        hasChanged(x);
    }
}
