/** Carries a body out as the document's table says, one iteration after the other and without workers. */
public final class PlainLoop {
    private PlainLoop() {
    }

    /** A statement is {op, x, a, b}. */
    public static void carryOut(Iterable<int[]> body, int iterations, int[] scalars, int[] cells) {
        for (int i = 0; i < iterations; i++) {
            for (int[] s : body) {
                statement(s[0], s[1], s[2], s[3], i, scalars, cells);
            }
        }
    }

    private static void statement(int op, int x, int a, int b, int i, int[] scalars, int[] cells) {
        switch (op) {
            case 0 -> scalars[x] = a;
            case 1 -> scalars[x] = cells[a * i + b];
            case 2 -> cells[a * i + b] = scalars[x];
            case 3 -> scalars[x] = scalars[x] + scalars[a];
            case 4 -> scalars[x] = Math.min(scalars[x], scalars[a]);
            default -> scalars[x] = scalars[x] + i;
        }
    }
}
