/** The document's words in their plainest form: what the program is held against. */
final class PlainModel {
    final int[] registers = new int[6];
    final int[] cells = new int[16];
    private final int[][] body = new int[10][];
    private int size = 0;

    private int append(boolean good, int... instruction) {
        if (!good) {
            return -1;
        }
        if (size == 10) {
            return -2;
        }
        body[size] = instruction;
        return size++;
    }

    private static boolean within(int low, int x, int high) {
        return low <= x && x <= high;
    }

    int load(int d, int k) {
        return append(within(0, d, 5) && within(-8, k, 8), 0, d, k);
    }

    int store(int a, int k) {
        return append(within(0, a, 5) && within(-8, k, 8), 1, a, k);
    }

    int apply(int op, int d, int a, int b) {
        boolean goodOp = within(2, op, 5) || op == 7;
        return append(goodOp && within(0, d, 5) && within(0, a, 5) && within(0, b, 5), op, d, a, b);
    }

    int constant(int d, int k) {
        return append(within(0, d, 5) && within(-8, k, 8), 6, d, k);
    }

    int unappend() {
        return size == 0 ? -1 : --size;
    }

    void clear() {
        size = 0;
    }

    int size() {
        return size;
    }

    int set(int r, int v) {
        if (!within(0, r, 5)) {
            return -1;
        }
        registers[r] = v;
        return 0;
    }

    int get(int r) {
        return within(0, r, 5) ? registers[r] : 0;
    }

    int put(int c, int v) {
        if (!within(0, c, 15)) {
            return -1;
        }
        cells[c] = v;
        return 0;
    }

    int cell(int c) {
        return within(0, c, 15) ? cells[c] : 0;
    }

    int ramp(int a, int b) {
        for (int c = 0; c < 16; c++) {
            cells[c] = a + b * c;
        }
        return 0;
    }

    int run(int n) {
        if (!within(0, n, 12)) {
            return -1;
        }
        for (int i = 0; i < n; i++) {
            for (int j = 0; j < size; j++) {
                perform(body[j], i);
            }
        }
        return n * size;
    }

    private void perform(int[] x, int i) {
        int[] r = registers;
        switch (x[0]) {
            case 0 -> r[x[1]] = cells[(i + x[2]) & 15];
            case 1 -> cells[(i + x[2]) & 15] = r[x[1]];
            case 2 -> r[x[1]] = r[x[2]] + r[x[3]];
            case 3 -> r[x[1]] = r[x[2]] - r[x[3]];
            case 4 -> r[x[1]] = r[x[2]] * r[x[3]];
            case 5 -> r[x[1]] = r[x[2]] < r[x[3]] ? 1 : 0;
            case 6 -> r[x[1]] = x[2];
            case 7 -> r[x[1]] = r[x[1]] != 0 ? r[x[2]] : r[x[3]];
            default -> throw new IllegalStateException("op " + x[0]);
        }
    }

    int digest() {
        int sum = 0;
        for (int r = 0; r < 6; r++) {
            sum += (r + 1) * registers[r];
        }
        for (int c = 0; c < 16; c++) {
            sum += (c + 7) * cells[c];
        }
        return sum;
    }

    int mode(int n) {
        return within(0, n, 3) ? 0 : -1;
    }
}
