/** The terms and promises 14 and 16, sentence by sentence: what a run does, in every mode. */
public final class RunBoundariesTest {
    private static final int BAD_ARG = Samples.BAD_ARG;
    private static final int MIN = Samples.MIN;
    private static final int MAX = Samples.MAX;
    private static final int ADD = 2;
    private static final int SUB = 3;
    private static final int MUL = 4;
    private static final int LESS = 5;
    private static final int PICK = 7;

    /** Every call but mode, accepted and refused, one after the other on one object. */
    private static final Samples.Call[] ANY_CALLS = {
        LoopPipeliner::size, LoopPipeliner::unappend, x -> x.run(12), x -> x.run(13),
        x -> x.load(0, 1), x -> x.load(6, 1), x -> x.store(1, 2), x -> x.store(1, 9),
        x -> x.apply(ADD, 1, 1, 0), x -> x.apply(6, 1, 1, 0), x -> x.constant(2, 8), x -> x.constant(2, -9),
        LoopPipeliner::size, x -> x.run(12), LoopPipeliner::digest, LoopPipeliner::unappend,
        x -> x.set(3, 7), x -> x.set(6, 7), x -> x.get(3), x -> x.get(6),
        x -> x.put(15, 7), x -> x.put(16, 7), x -> x.cell(15), x -> x.cell(16),
        x -> x.ramp(3, 5), x -> x.run(7), LoopPipeliner::digest,
        x -> {
            x.clear();
            return x.size();
        },
        x -> x.store(0, 0), x -> x.load(0, -1), x -> x.store(0, 1), x -> x.apply(MUL, 4, 4, 0), x -> x.apply(PICK, 5, 4, 0),
        x -> x.store(5, 8), x -> x.load(5, -8), x -> x.load(4, 2), x -> x.store(4, -2), x -> x.constant(0, 3),
        x -> x.constant(0, 3), x -> x.load(0, 0), x -> x.store(0, 0), x -> x.apply(SUB, 0, 0, 0), x -> x.run(12),
    };

    private static final Checks checks = new Checks();

    /** A test that is to hold in each of the four modes. */
    private interface InMode {
        void test(String at, int mode);
    }

    private static void due(String what, long got, long want) {
        checks.due(what, got, want);
    }

    private static void sentence(String words, InMode inMode) {
        checks.sentence(words, () -> {
            for (int mode = 0; mode <= 3; mode++) {
                inMode.test("mode " + mode + ", ", mode);
            }
        });
    }

    private static LoopPipeliner filledIn(int mode) {
        LoopPipeliner x = Samples.filled();
        x.mode(mode);
        return x;
    }

    private static int round(int c) {
        return (c + 16) % 16;
    }

    private static void cellsRoundTheEnds() {
        sentence("Terms, load: d becomes the cell at (i + k) & 15", (at, mode) -> {
            for (int k = -8; k <= 8; k++) {
                for (int i = 0; i < 12; i++) {
                    LoopPipeliner x = filledIn(mode);
                    x.load(5, k);
                    x.run(i + 1);
                    due(at + "k = " + k + ", i = " + i, x.get(5), 200 + round(i + k));
                }
            }
        });
        sentence("Terms, store: the cell at (i + k) & 15 becomes a", (at, mode) -> {
            for (int k = -8; k <= 8; k++) {
                for (int n = 1; n <= 12; n++) {
                    storedFrom(at, filledIn(mode), k, n);
                }
            }
        });
        sentence("Terms, -8 and 8 reach the same cell, 16 apart", (at, mode) -> {
            LoopPipeliner x = filledIn(mode);
            x.store(0, -8);
            x.load(1, 8);
            x.run(1);
            due(at + "stored by -8, loaded by 8", x.get(1), 100);
            x = filledIn(mode);
            x.store(0, 8);
            x.load(1, -8);
            x.run(1);
            due(at + "stored by 8, loaded by -8", x.get(1), 100);
        });
    }

    /** In turn i register 0 is 100 + 101 (i + 1). */
    private static void storedFrom(String at, LoopPipeliner x, int k, int n) {
        x.apply(ADD, 0, 0, 1);
        x.store(0, k);
        x.run(n);
        for (int i = 0; i < 16; i++) {
            int c = round(i + k);
            due(at + "k = " + k + ", n = " + n + ", cell " + c, x.cell(c), i < n ? 100 + 101 * (i + 1) : 200 + c);
        }
    }

    private static void extremesAreHeld() {
        sentence("Terms, registers 0 to 5 hold ints", (at, mode) -> {
            for (int r = 0; r < 6; r++) {
                for (int v : Samples.EXTREMES) {
                    LoopPipeliner x = filledIn(mode);
                    x.put(11, v);
                    x.load(r, 0);
                    x.run(12);
                    due(at + v + " in register " + r, x.get(r), v);
                }
            }
        });
        sentence("Terms, the list has 16 cells, 0 to 15, with ints", (at, mode) -> {
            for (int c = 0; c < 16; c++) {
                for (int v : Samples.EXTREMES) {
                    LoopPipeliner x = filledIn(mode);
                    x.set(5, v);
                    x.store(5, c <= 8 ? c : c - 16);
                    x.run(1);
                    due(at + v + " in cell " + c, x.cell(c), v);
                }
            }
        });
    }

    private static void result(String at, int mode, int op, int d, int a, int b, int want) {
        LoopPipeliner x = new LoopPipeliner();
        x.mode(mode);
        x.set(0, d);
        x.set(1, a);
        x.set(2, b);
        x.apply(op, 0, 1, 2);
        x.run(1);
        String what = at + "of " + a + " and " + b + (op == PICK ? " by " + d : "");
        due(what, x.get(0), want);
        due(what + ", a stays", x.get(1), a);
        due(what + ", b stays", x.get(2), b);
    }

    private static void results() {
        sentence("Terms, add: d becomes a + b, wrapping", (at, mode) -> {
            result(at, mode, ADD, 9, MAX, 0, MAX);
            result(at, mode, ADD, 9, MAX, 1, MIN);
            result(at, mode, ADD, 9, 1, MAX, MIN);
            result(at, mode, ADD, 9, MIN, -1, MAX);
            result(at, mode, ADD, 9, MAX, MAX, -2);
            result(at, mode, ADD, 9, MIN, MIN, 0);
            result(at, mode, ADD, 9, MIN, MAX, -1);
        });
        sentence("Terms, sub: d becomes a - b, wrapping", (at, mode) -> {
            result(at, mode, SUB, 9, MIN, 0, MIN);
            result(at, mode, SUB, 9, MIN, 1, MAX);
            result(at, mode, SUB, 9, MAX, -1, MIN);
            result(at, mode, SUB, 9, 0, MIN, MIN);
            result(at, mode, SUB, 9, MAX, MIN, -1);
            result(at, mode, SUB, 9, MIN, MAX, 1);
            result(at, mode, SUB, 9, MIN, MIN, 0);
        });
        sentence("Terms, mul: d becomes a * b, wrapping", (at, mode) -> {
            result(at, mode, MUL, 9, 46340, 46340, 2147395600);
            result(at, mode, MUL, 9, 46341, 46341, -2147479015);
            result(at, mode, MUL, 9, 65536, 65536, 0);
            result(at, mode, MUL, 9, 65536, -32768, MIN);
            result(at, mode, MUL, 9, MIN, -1, MIN);
            result(at, mode, MUL, 9, MIN, MIN, 0);
            result(at, mode, MUL, 9, MAX, MAX, 1);
            result(at, mode, MUL, 9, MAX, 2, -2);
            result(at, mode, MUL, 9, MAX, MIN, MIN);
            result(at, mode, MUL, 9, MIN, 0, 0);
        });
    }

    private static void choices() {
        sentence("Terms, less: d becomes 1 if a < b, else 0", (at, mode) -> {
            for (int a : Samples.EXTREMES) {
                result(at, mode, LESS, 9, a, a, 0);
            }
            for (int i = 1; i < Samples.EXTREMES.length; i++) {
                result(at, mode, LESS, 9, Samples.EXTREMES[i - 1], Samples.EXTREMES[i], 1);
                result(at, mode, LESS, 9, Samples.EXTREMES[i], Samples.EXTREMES[i - 1], 0);
            }
            result(at, mode, LESS, 9, MIN, MAX, 1);
            result(at, mode, LESS, 9, MAX, MIN, 0);
        });
        sentence("Terms, const: d becomes k, from -8 to 8", (at, mode) -> {
            for (int d = 0; d < 6; d++) {
                for (int k = -8; k <= 8; k++) {
                    LoopPipeliner x = filledIn(mode);
                    x.constant(d, k);
                    x.run(12);
                    due(at + "const " + d + " " + k, x.get(d), k);
                }
            }
        });
        sentence("Terms, pick: d becomes a if d is not 0, else b", (at, mode) -> {
            for (int d : Samples.INTS) {
                result(at, mode, PICK, d, MIN, MAX, d != 0 ? MIN : MAX);
            }
            result(at, mode, PICK, 0, 0, 0, 0);
            result(at, mode, PICK, 1, 0, 7, 0);
            result(at, mode, PICK, 0, 7, 0, 0);
        });
    }

    /** Register d is v and every other one is w; the answer is register d after one turn. */
    private static int oneTurn(int mode, int op, int d, int a, int b, int v, int w) {
        LoopPipeliner x = new LoopPipeliner();
        x.mode(mode);
        for (int r = 0; r < 6; r++) {
            x.set(r, r == d ? v : w);
        }
        x.apply(op, d, a, b);
        x.run(1);
        return x.get(d);
    }

    private static void targetsAsOperands() {
        sentence("Terms, a may be d", (at, mode) -> {
            for (int d = 0; d < 6; d++) {
                int b = 5 - d;
                due(at + "add", oneTurn(mode, ADD, d, d, b, MAX, 2), MIN + 1);
                due(at + "sub", oneTurn(mode, SUB, d, d, b, MIN, 2), MAX - 1);
                due(at + "mul", oneTurn(mode, MUL, d, d, b, MIN, 3), MIN);
                due(at + "less", oneTurn(mode, LESS, d, d, b, 3, 4), 1);
                due(at + "less of a greater one", oneTurn(mode, LESS, d, d, b, 5, 4), 0);
                due(at + "pick by 9", oneTurn(mode, PICK, d, d, b, 9, 4), 9);
                due(at + "pick by 0", oneTurn(mode, PICK, d, d, b, 0, 4), 4);
            }
        });
        sentence("Terms, b may be d", (at, mode) -> {
            for (int d = 0; d < 6; d++) {
                int a = 5 - d;
                due(at + "add", oneTurn(mode, ADD, d, a, d, MAX, 2), MIN + 1);
                due(at + "sub", oneTurn(mode, SUB, d, a, d, MIN, -1), MAX);
                due(at + "mul", oneTurn(mode, MUL, d, a, d, MIN, 3), MIN);
                due(at + "less", oneTurn(mode, LESS, d, a, d, 4, 3), 1);
                due(at + "less of a greater one", oneTurn(mode, LESS, d, a, d, 4, 5), 0);
                due(at + "pick by 9", oneTurn(mode, PICK, d, a, d, 9, 4), 4);
                due(at + "pick by 0", oneTurn(mode, PICK, d, a, d, 0, 4), 0);
            }
        });
        sentence("Terms, a and b may both be d", (at, mode) -> {
            for (int d = 0; d < 6; d++) {
                due(at + "add", oneTurn(mode, ADD, d, d, d, MAX, 7), -2);
                due(at + "sub", oneTurn(mode, SUB, d, d, d, MIN, 7), 0);
                due(at + "mul", oneTurn(mode, MUL, d, d, d, 46341, 7), -2147479015);
                due(at + "less", oneTurn(mode, LESS, d, d, d, 5, 7), 0);
                due(at + "pick by 9", oneTurn(mode, PICK, d, d, d, 9, 7), 9);
                due(at + "pick by 0", oneTurn(mode, PICK, d, d, d, 0, 7), 0);
            }
        });
    }

    private static void turns() {
        sentence("Terms, for i = 0, 1, .., n - 1 in turn", (at, mode) -> {
            for (int n = 0; n <= 12; n++) {
                storedFrom(at, filledIn(mode), 0, n);
            }
        });
        sentence("Terms, the next run begins at i = 0 again", (at, mode) -> {
            LoopPipeliner x = filledIn(mode);
            x.store(0, 0);
            x.run(1);
            x.set(0, 7);
            x.run(1);
            due(at + "cell 0", x.cell(0), 7);
            due(at + "cell 1", x.cell(1), 201);
        });
        sentence("Terms, each run does all its instructions again, in every turn", (at, mode) -> {
            for (int n = 1; n <= 12; n++) {
                for (int m = 1; m <= 12; m++) {
                    ranTwice(at + "run(" + n + ") and run(" + m + ")", filledIn(mode), n, m);
                }
            }
        });
        sentence("Terms, all its instructions one after the other", (at, mode) -> {
            for (int size = 1; size <= 10; size++) {
                chained(at + size + " in a chain", filledIn(mode), size);
            }
        });
    }

    /** Register 0 counts the turns by ones, register 2 those that ended, and cell i keeps the count of turn i. */
    private static void ranTwice(String at, LoopPipeliner x, int n, int m) {
        x.constant(1, 1);
        x.apply(ADD, 0, 0, 1);
        x.store(0, 0);
        x.apply(ADD, 2, 2, 1);
        x.run(n);
        x.run(m);
        due(at + ", get(0)", x.get(0), 100 + n + m);
        due(at + ", get(2)", x.get(2), 102 + n + m);
        for (int c = 0; c < 16; c++) {
            int firstRun = c < n ? 100 + c + 1 : 200 + c;
            due(at + ", cell " + c, x.cell(c), c < m ? 100 + n + c + 1 : firstRun);
        }
    }

    /** Registers 0 and 1 are added into each other in turn: each sum needs the one before. */
    private static void chained(String at, LoopPipeliner x, int size) {
        int[] sums = {100, 101};
        for (int place = 0; place < size; place++) {
            x.apply(ADD, place % 2, 0, 1);
        }
        x.run(12);
        for (int step = 0; step < 12 * size; step++) {
            sums[step % size % 2] = sums[0] + sums[1];
        }
        due(at + ", get(0)", x.get(0), sums[0]);
        due(at + ", get(1)", x.get(1), sums[1]);
    }

    private static void runs() {
        checks.sentence("14 run, BAD_ARG if n is not 0 to 12", () -> {
            Samples.range(checks, "no instruction, n", 0, 12, n -> new LoopPipeliner().run(n), 0, BAD_ARG);
            for (int n : Samples.INTS) {
                boolean good = 0 <= n && n <= 12;
                due("full, n = " + n, Samples.withBody(10).run(n), good ? 10 * n : BAD_ARG);
            }
        });
        checks.sentence("14 run, refused it changes nothing", () -> {
            for (int n : new int[] {MIN, -1, 13, 16, MAX}) {
                Samples.changesNothing(checks, "run(" + n + ")", BAD_ARG, x -> x.run(n), 0, 1, 10);
            }
        });
        sentence("14 run, otherwise n times the number of instructions", (at, mode) -> {
            for (int size = 0; size <= 10; size++) {
                for (int n = 0; n <= 12; n++) {
                    LoopPipeliner x = Samples.withBody(size);
                    x.mode(mode);
                    due(at + size + " instructions, run(" + n + ")", x.run(n), n * size);
                }
            }
        });
        sentence("14 run, 0 times changes nothing", (at, mode) -> {
            for (int size = 0; size <= 10; size++) {
                LoopPipeliner x = Samples.withBody(size);
                x.mode(mode);
                due(at + "run(0) with " + size, x.run(0), 0);
                Samples.alike(checks, at + "after run(0) with " + size, x, Samples.withBody(size));
            }
        });
        sentence("14 run, of no instruction changes nothing", (at, mode) -> {
            LoopPipeliner x = filledIn(mode);
            due(at + "run(12)", x.run(12), 0);
            Samples.alike(checks, at + "after run(12)", x, Samples.filled());
        });
        sentence("14 run, the body stays as it is", (at, mode) -> {
            LoopPipeliner x = Samples.withBody(10);
            x.mode(mode);
            x.run(12);
            due(at + "size()", x.size(), 10);
            for (int number = 9; number >= 0; number--) {
                due(at + "unappend()", x.unappend(), number);
            }
        });
    }

    private static void modes() {
        checks.sentence("16 mode, BAD_ARG if n is not 0 to 3, else 0", () -> {
            for (int size : new int[] {0, 1, 10}) {
                Samples.range(checks, size + " instructions, n", 0, 3, n -> Samples.withBody(size).mode(n), 0, BAD_ARG);
            }
        });
        checks.sentence("16 mode, refused it changes nothing", () -> {
            for (int n : new int[] {MIN, -1, 4, MAX}) {
                Samples.changesNothing(checks, "mode(" + n + ")", BAD_ARG, x -> x.mode(n), 0, 1, 10);
                Samples.changesNothing(checks, "mode(" + n + ") in mode 3", BAD_ARG, x -> x.mode(3) + x.mode(n), 0, 1, 10);
            }
        });
        sentence("16 mode, it answers the same whatever the order was", (at, mode) -> {
            for (int n : Samples.INTS) {
                LoopPipeliner x = filledIn(mode);
                due(at + "mode(" + n + ")", x.mode(n), 0 <= n && n <= 3 ? 0 : BAD_ARG);
            }
        });
        sentence("Terms, the order can't be seen in the answer of any other call", (at, mode) -> {
            LoopPipeliner x = filledIn(mode);
            LoopPipeliner y = Samples.filled();
            for (int call = 0; call < ANY_CALLS.length; call++) {
                due(at + "call " + call, ANY_CALLS[call].on(x), ANY_CALLS[call].on(y));
                due(at + "digest() after call " + call, x.digest(), y.digest());
            }
            Samples.alike(checks, at + "after all calls", x, y);
        });
        sentence("Terms, the order can't be seen by any other call", (at, mode) -> {
            for (int size = 0; size <= 10; size++) {
                LoopPipeliner x = Samples.withBody(size);
                x.mode(mode);
                Samples.alike(checks, at + size + " instructions", x, Samples.withBody(size));
            }
        });
        sentence("Terms, the order can't be seen when it changes between runs", (at, mode) -> {
            LoopPipeliner x = Samples.withBody(10);
            LoopPipeliner y = Samples.withBody(10);
            for (int next = 0; next <= 3; next++) {
                x.mode(mode);
                due(at + "run(12)", x.run(12), y.run(12));
                x.mode(next);
                due(at + "then " + next + ", run(12)", x.run(12), y.run(12));
                Samples.sameNumbers(checks, at + "then " + next, x, y);
            }
        });
    }

    /** What a body of two left behind after n turns. */
    private interface Look {
        int at(LoopPipeliner x, int n);
    }

    // One turn shows whether the two changed places; twelve, whether one turn overtook another.
    private static void pair(String words, Samples.Call first, Samples.Call second, Look look, int after1, int after12) {
        sentence("Terms, no order shows in " + words, (at, mode) -> {
            for (int n : new int[] {1, 12}) {
                LoopPipeliner x = filledIn(mode);
                first.on(x);
                second.on(x);
                x.run(n);
                due(at + "after run(" + n + ")", look.at(x, n), n == 1 ? after1 : after12);
            }
        });
    }

    private static void pairsThatClash() {
        pair("a register that is written, then read",
            x -> x.constant(0, 1), x -> x.apply(ADD, 1, 1, 0), (x, n) -> x.get(1), 102, 113);
        pair("a register that is read, then written",
            x -> x.apply(ADD, 1, 0, 0), x -> x.constant(0, 5), (x, n) -> x.get(1), 200, 10);
        pair("a register that is written twice",
            x -> x.constant(0, 1), x -> x.constant(0, 2), (x, n) -> x.get(0), 2, 2);
        pair("the register that pick reads and writes",
            x -> x.constant(0, 0), x -> x.apply(PICK, 0, 1, 2), (x, n) -> x.get(0), 102, 102);
        pair("a cell that is written, then read",
            x -> x.store(0, 1), x -> x.load(1, 1), (x, n) -> x.get(1), 100, 100);
        pair("a cell that is read, then written",
            x -> x.load(1, 8), x -> x.store(0, -8), (x, n) -> x.get(1), 208, 203);
        pair("a cell that is written twice",
            x -> x.store(0, -8), x -> x.store(1, 8), (x, n) -> x.cell(8), 101, 101);
        pair("a cell that is written for the next turn",
            x -> x.load(0, 0), x -> x.store(0, 1), (x, n) -> x.cell(n), 200, 200);
    }

    public static void main(String[] args) {
        cellsRoundTheEnds();
        extremesAreHeld();
        results();
        choices();
        targetsAsOperands();
        turns();
        runs();
        modes();
        pairsThatClash();
        checks.end("RunBoundariesTest");
    }
}
