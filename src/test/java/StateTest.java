/** Promises 5 to 8: setScalar, setCell, scalar, cell. */
public final class StateTest {
    private static final int SET = 0, LOAD = 1, STORE = 2;
    private static final int[] VALUES = {1, -1, 0, 42, Integer.MAX_VALUE, Integer.MIN_VALUE};

    public static void main(String[] args) {
        everyScalar();
        everyCell();
        wrongPlaces();
        whileARunIsUnderWay();
        runUsesWhatWasSet();
        Check.end();
    }

    private static void everyScalar() {
        LoopWorkers x = new LoopWorkers(4, 2);
        for (int s = 0; s < 4; s++) {
            for (int v : VALUES) {
                Check.due("setScalar " + s, x.setScalar(s, v), true);
                Check.due("scalar " + s, x.scalar(s), v);
            }
            x.setScalar(s, 100 + s);
        }
        for (int s = 0; s < 4; s++) {
            Check.due("scalar kept apart " + s, x.scalar(s), 100 + s);
            Check.due("cell not touched " + s, x.cell(s), 0);
        }
    }

    private static void everyCell() {
        LoopWorkers x = new LoopWorkers(4, 2);
        for (int k = 0; k < 16; k++) {
            for (int v : VALUES) {
                Check.due("setCell " + k, x.setCell(k, v), true);
                Check.due("cell " + k, x.cell(k), v);
            }
            x.setCell(k, 200 + k);
        }
        for (int k = 0; k < 16; k++) {
            Check.due("cell kept apart " + k, x.cell(k), 200 + k);
            Check.due("scalar not touched " + k, x.scalar(k), 0);
        }
    }

    private static void wrongPlaces() {
        LoopWorkers x = new LoopWorkers(4, 2);
        for (int s = 0; s < 4; s++) {
            x.setScalar(s, 7);
        }
        for (int k = 0; k < 16; k++) {
            x.setCell(k, 8);
        }
        for (int wrong : new int[] {Integer.MIN_VALUE, -1, 4, 16, Integer.MAX_VALUE}) {
            Check.due("setScalar " + wrong, x.setScalar(wrong, 9), false);
            Check.due("scalar " + wrong, x.scalar(wrong), 0);
        }
        for (int wrong : new int[] {Integer.MIN_VALUE, -1, 16, Integer.MAX_VALUE}) {
            Check.due("setCell " + wrong, x.setCell(wrong, 9), false);
            Check.due("cell " + wrong, x.cell(wrong), 0);
        }
        shows(x, "after wrong places", 7, 8);
    }

    private static void whileARunIsUnderWay() {
        LoopWorkers x = new LoopWorkers(8, 2);
        for (int s = 0; s < 4; s++) {
            x.setScalar(s, 7);
        }
        for (int k = 0; k < 16; k++) {
            x.setCell(k, 8);
        }
        x.add(SET, 0, 5, 0);
        x.add(STORE, 0, 2, 0);
        x.start();
        for (int w = 0; w < 2; w++) {
            for (int n = 0; n < 7; n++) {
                x.step(w, 1);
                Check.due("setScalar in a run", x.setScalar(0, 1), false);
                Check.due("setScalar wrong in a run", x.setScalar(4, 1), false);
                Check.due("setCell in a run", x.setCell(0, 1), false);
                Check.due("setCell wrong in a run", x.setCell(-1, 1), false);
                Check.due("scalar wrong in a run", x.scalar(4), 0);
                Check.due("cell wrong in a run", x.cell(16), 0);
                shows(x, "in a run", 7, 8);
            }
        }
        x.abandon();
        shows(x, "after an abandoned run", 7, 8);
        Check.due("setScalar after a run", x.setScalar(3, 1), true);
        Check.due("setCell after a run", x.setCell(15, 1), true);
        x.start();
        Check.due("setScalar in the second run", x.setScalar(3, 2), false);
        x.finish();
        Check.due("scalar 0 after the run", x.scalar(0), 5);
        Check.due("scalar 3 after the run", x.scalar(3), 1);
        for (int k = 0; k < 15; k++) {
            Check.due("cell after the run " + k, x.cell(k), k % 2 == 0 ? 5 : 8);
        }
        Check.due("cell 15 after the run", x.cell(15), 1);
    }

    private static void runUsesWhatWasSet() {
        LoopWorkers x = new LoopWorkers(8, 4);
        x.add(LOAD, 0, 1, 0);
        x.add(STORE, 0, -1, 15);
        for (int k = 0; k < 8; k++) {
            x.setCell(k, 10 * k + 1);
        }
        x.start();
        x.finish();
        for (int k = 0; k < 8; k++) {
            Check.due("copied cell " + k, x.cell(15 - k), 10 * k + 1);
        }
        Check.due("last loaded", x.scalar(0), 71);
    }

    private static void shows(LoopWorkers x, String when, int scalar, int cell) {
        for (int s = 0; s < 4; s++) {
            Check.due("scalar " + s + " " + when, x.scalar(s), scalar);
        }
        for (int k = 0; k < 16; k++) {
            Check.due("cell " + k + " " + when, x.cell(k), cell);
        }
    }
}
