/** Long mixed runs of calls, and all small bodies in every mode, against the plain model. */
public final class ModelTest {
    private static final int MOST_CALLS = 512;
    private static final int LOOKS = 24;
    private static final int[] EDGES = {
        Integer.MIN_VALUE, -100, -9, -8, -1, 0, 1, 2, 5, 6, 7, 8, 9, 10, 12, 13, 15, 16, 100, Integer.MAX_VALUE
    };
    private static final int[] APPLIED = {2, 3, 4, 5, 7};

    private static final Checks checks = new Checks();
    private static long seed = 20261116L;

    // A sequence of its own, so that every test run makes the same calls.
    private static int next(int bound) {
        seed = seed * 6364136223846793005L + 1442695040888963407L;
        return (int) ((seed >>> 33) % bound);
    }

    private static int between(int low, int high) {
        return low + next(high - low + 1);
    }

    private static int mostly(int low, int high) {
        return next(20) == 0 ? EDGES[next(EDGES.length)] : between(low, high);
    }

    private static int anyInt() {
        return next(3) == 0 ? between(-3, 3) : next(2) == 0 ? EDGES[next(EDGES.length)] : next(1 << 30) * 7 - next(1 << 30);
    }

    private static void sameState(String where, LoopPipeliner x, PlainModel y) {
        checks.due(where + " size()", x.size(), y.size());
        checks.due(where + " digest()", x.digest(), y.digest());
        for (int r = 0; r < 6; r++) {
            checks.due(where + " get(" + r + ")", x.get(r), y.get(r));
        }
        for (int c = 0; c < 16; c++) {
            checks.due(where + " cell(" + c + ")", x.cell(c), y.cell(c));
        }
    }

    private static void appendAny(String at, LoopPipeliner x, PlainModel y) {
        int op = mostly(0, 7);
        int d = mostly(0, 5);
        int a = mostly(0, 5);
        int b = mostly(0, 5);
        int k = mostly(-8, 8);
        switch (op) {
            case 0 -> checks.due(at + " load(" + d + ", " + k + ")", x.load(d, k), y.load(d, k));
            case 1 -> checks.due(at + " store(" + a + ", " + k + ")", x.store(a, k), y.store(a, k));
            case 6 -> checks.due(at + " constant(" + d + ", " + k + ")", x.constant(d, k), y.constant(d, k));
            default -> checks.due(at + " apply(" + op + ", " + d + ", " + a + ", " + b + ")",
                x.apply(op, d, a, b), y.apply(op, d, a, b));
        }
    }

    private static void callAny(String at, LoopPipeliner x, PlainModel y) {
        int n = mostly(0, 12);
        int v = anyInt();
        int w = anyInt();
        switch (next(16)) {
            case 0, 1, 2, 3, 4 -> appendAny(at, x, y);
            case 5 -> checks.due(at + " unappend()", x.unappend(), y.unappend());
            case 6 -> {
                if (next(8) == 0) {
                    x.clear();
                    y.clear();
                }
            }
            case 7 -> checks.due(at + " set", x.set(n - 2, v), y.set(n - 2, v));
            case 8 -> checks.due(at + " put", x.put(n, v), y.put(n, v));
            case 9 -> checks.due(at + " ramp(" + v + ", " + w + ")", x.ramp(v, w), y.ramp(v, w));
            case 10 -> checks.due(at + " get(" + n + ")", x.get(n), y.get(n));
            case 11 -> checks.due(at + " cell(" + n + ")", x.cell(n), y.cell(n));
            case 12 -> {
                int m = mostly(0, 3);
                checks.due(at + " mode(" + m + ")", x.mode(m), y.mode(m));
            }
            case 13 -> checks.due(at + " digest()", x.digest(), y.digest());
            default -> checks.due(at + " run(" + n + ")", x.run(n), y.run(n));
        }
    }

    private static void mixedRuns() {
        for (int run = 0; run < 2000; run++) {
            LoopPipeliner x = new LoopPipeliner();
            PlainModel y = new PlainModel();
            for (int call = 0; call < MOST_CALLS - LOOKS; call++) {
                callAny("mixed run " + run + " call " + call, x, y);
            }
            sameState("mixed run " + run + " end", x, y);
        }
    }

    private static void startRich(LoopPipeliner x, PlainModel y) {
        x.ramp(3, 1000003);
        y.ramp(3, 1000003);
        for (int r = 0; r < 6; r++) {
            x.set(r, 11 + 17 * r);
            y.set(r, 11 + 17 * r);
        }
    }

    // Full bodies at once, in every mode: where instructions overtake each other most.
    private static void fullBodies() {
        for (int body = 0; body < 4000; body++) {
            for (int mode = 0; mode < 4; mode++) {
                long start = seed;
                LoopPipeliner x = new LoopPipeliner();
                PlainModel y = new PlainModel();
                startRich(x, y);
                for (int i = 0; i < 12; i++) {
                    appendAny("full body " + body, x, y);
                }
                x.mode(mode);
                checks.due("full body " + body + " mode " + mode + " run(12)", x.run(12), y.run(12));
                sameState("full body " + body + " mode " + mode, x, y);
                checks.due("full body " + body + " mode " + mode + " run(5)", x.run(5), y.run(5));
                sameState("full body " + body + " mode " + mode, x, y);
                if (mode < 3) {
                    seed = start;
                }
            }
        }
    }

    private static void appendSmall(int which, LoopPipeliner x, PlainModel y) {
        if (which < 27) {
            int r = which % 3;
            int k = which / 3 % 3 - 1;
            switch (which / 9) {
                case 0 -> checks.due("load", x.load(r, k), y.load(r, k));
                case 1 -> checks.due("store", x.store(r, k), y.store(r, k));
                default -> checks.due("constant", x.constant(r, k), y.constant(r, k));
            }
        } else {
            int rest = which - 27;
            int op = APPLIED[rest / 27];
            int d = rest % 3;
            int a = rest / 3 % 3;
            int b = rest / 9 % 3;
            checks.due("apply", x.apply(op, d, a, b), y.apply(op, d, a, b));
        }
    }

    private static void allPairs() {
        int kinds = 27 + 5 * 27;
        for (int first = 0; first < kinds; first++) {
            for (int second = 0; second < kinds; second++) {
                for (int mode = 0; mode < 4; mode++) {
                    LoopPipeliner x = new LoopPipeliner();
                    PlainModel y = new PlainModel();
                    startRich(x, y);
                    appendSmall(first, x, y);
                    appendSmall(second, x, y);
                    x.mode(mode);
                    String at = "pair " + first + " " + second + " mode " + mode;
                    checks.due(at + " run(5)", x.run(5), y.run(5));
                    checks.due(at + " digest()", x.digest(), y.digest());
                }
            }
        }
    }

    public static void main(String[] args) {
        mixedRuns();
        fullBodies();
        allPairs();
        checks.end("ModelTest");
    }
}
