/** Each promise of the document: ordinary inputs, the edges it names, and wrong inputs. */
public final class PromisesTest {
    private static final int BAD_ARG = -1;
    private static final int FULL = -2;
    private static final int MIN = Integer.MIN_VALUE;
    private static final int MAX = Integer.MAX_VALUE;
    private static final int[] NO_REGISTER = {MIN, -1, 6, 7, MAX};
    private static final int[] NO_CELL = {MIN, -1, 16, 17, MAX};
    private static final int[] OUT_OF_REACH = {MIN, -9, 9, 16, MAX};

    private static final Checks checks = new Checks();

    private static void due(String what, long got, long want) {
        checks.due(what, got, want);
    }

    /** Register r holds 100 + r and cell c holds 200 + c. */
    private static LoopPipeliner filled() {
        LoopPipeliner x = new LoopPipeliner();
        for (int r = 0; r < 6; r++) {
            x.set(r, 100 + r);
        }
        for (int c = 0; c < 16; c++) {
            x.put(c, 200 + c);
        }
        return x;
    }

    private static void sameAsFilled(String where, LoopPipeliner x, int exceptRegister, int exceptCell) {
        for (int r = 0; r < 6; r++) {
            if (r != exceptRegister) {
                due(where + " get(" + r + ")", x.get(r), 100 + r);
            }
        }
        for (int c = 0; c < 16; c++) {
            if (c != exceptCell) {
                due(where + " cell(" + c + ")", x.cell(c), 200 + c);
            }
        }
    }

    private static LoopPipeliner full() {
        LoopPipeliner x = filled();
        for (int i = 0; i < 10; i++) {
            x.apply(2, 0, 0, 1);
        }
        return x;
    }

    /** The body of full() is seen only by what it does. */
    private static void stillFull(String where, LoopPipeliner x) {
        due(where + " size()", x.size(), 10);
        sameAsFilled(where, x, -1, -1);
        due(where + " run(1)", x.run(1), 10);
        due(where + " get(0) after run", x.get(0), 100 + 10 * 101);
        sameAsFilled(where + " after run", x, 0, -1);
    }

    private static int append(String call, LoopPipeliner x, int r, int k) {
        return switch (call) {
            case "load" -> x.load(r, k);
            case "store" -> x.store(r, k);
            default -> x.constant(r, k);
        };
    }

    private static void refusedAs(int code, String at, String call, int r, int k) {
        LoopPipeliner x = full();
        String what = at + " full " + call + "(" + r + ", " + k + ")";
        due(what, append(call, x, r, k), code);
        stillFull(what, x);
    }

    private static void badAlways(String at, String call, int r, int k) {
        refusedAs(BAD_ARG, at, call, r, k);
        LoopPipeliner x = filled();
        String what = at + " " + call + "(" + r + ", " + k + ")";
        due(what, append(call, x, r, k), BAD_ARG);
        due(what + " size()", x.size(), 0);
        sameAsFilled(what, x, -1, -1);
    }

    private static void refusedAsLoad(String at, String call) {
        for (int bad : NO_REGISTER) {
            badAlways(at, call, bad, 0);
        }
        for (int bad : OUT_OF_REACH) {
            badAlways(at, call, 5, bad);
        }
        refusedAs(FULL, at, call, 5, 8);
        refusedAs(FULL, at, call, 0, -8);
    }

    private static void promise1NewObject() {
        LoopPipeliner x = new LoopPipeliner();
        for (int r = 0; r < 6; r++) {
            due("p1 get(" + r + ")", x.get(r), 0);
        }
        for (int c = 0; c < 16; c++) {
            due("p1 cell(" + c + ")", x.cell(c), 0);
        }
        due("p1 size()", x.size(), 0);
        due("p1 digest()", x.digest(), 0);
        due("p1 run(12)", x.run(12), 0);
        LoopPipeliner other = new LoopPipeliner();
        other.set(0, 9);
        other.put(0, 9);
        other.load(0, 0);
        due("p1 another object's register", x.get(0), 0);
        due("p1 another object's cell", x.cell(0), 0);
        due("p1 another object's body", x.size(), 0);
    }

    private static void promise2Load() {
        for (int d = 0; d < 6; d++) {
            for (int k = -8; k <= 8; k++) {
                LoopPipeliner x = filled();
                String at = "p2 load(" + d + ", " + k + ")";
                due(at, x.load(d, k), 0);
                sameAsFilled(at + " before run", x, -1, -1);
                due(at + " run(1)", x.run(1), 1);
                due(at + " get", x.get(d), 200 + ((k + 16) % 16));
                due(at + " run(12)", x.run(12), 12);
                due(at + " get", x.get(d), 200 + ((11 + k + 16) % 16));
                sameAsFilled(at, x, d, -1);
            }
        }
        refusedAsLoad("p2", "load");
    }

    private static void promise3Store() {
        for (int a = 0; a < 6; a++) {
            for (int k = -8; k <= 8; k++) {
                LoopPipeliner x = filled();
                String at = "p3 store(" + a + ", " + k + ")";
                due(at, x.store(a, k), 0);
                sameAsFilled(at + " before run", x, -1, -1);
                due(at + " run(1)", x.run(1), 1);
                int c = (k + 16) % 16;
                due(at + " cell", x.cell(c), 100 + a);
                sameAsFilled(at, x, -1, c);
                due(at + " run(12)", x.run(12), 12);
                for (int i = 0; i < 16; i++) {
                    due(at + " cell " + i + " on", x.cell((c + i) % 16), i < 12 ? 100 + a : 200 + (c + i) % 16);
                }
            }
        }
        refusedAsLoad("p3", "store");
    }

    private static int applied(int op, int d, int a, int b) {
        LoopPipeliner x = new LoopPipeliner();
        x.set(0, d);
        x.set(1, a);
        x.set(2, b);
        due("p4 apply(" + op + ", 0, 1, 2)", x.apply(op, 0, 1, 2), 0);
        due("p4 run(1)", x.run(1), 1);
        due("p4 a is kept", x.get(1), a);
        due("p4 b is kept", x.get(2), b);
        return x.get(0);
    }

    private static void promise4Results() {
        due("p4 add", applied(2, 9, 30, 12), 42);
        due("p4 add wraps", applied(2, 9, MAX, 1), MIN);
        due("p4 sub", applied(3, 9, 30, 12), 18);
        due("p4 sub wraps", applied(3, 9, MIN, 1), MAX);
        due("p4 mul", applied(4, 9, 30, -12), -360);
        due("p4 mul wraps", applied(4, 9, 65536, 65537), 65536);
        due("p4 mul of the least int", applied(4, 9, MIN, -1), MIN);
        due("p4 less", applied(5, 9, 3, 4), 1);
        due("p4 less of equals", applied(5, 9, 4, 4), 0);
        due("p4 less of a greater one", applied(5, 9, 5, 4), 0);
        due("p4 less does not wrap", applied(5, 9, MIN, MAX), 1);
        due("p4 less does not wrap back", applied(5, 9, MAX, MIN), 0);
        due("p4 pick by 1", applied(7, 1, 30, 12), 30);
        due("p4 pick by 0", applied(7, 0, 30, 12), 12);
        due("p4 pick by -1", applied(7, -1, 30, 12), 30);
        due("p4 pick by the least int", applied(7, MIN, 30, 12), 30);
    }

    private static void promise4AllRegisters() {
        for (int d = 0; d < 6; d++) {
            for (int a = 0; a < 6; a++) {
                for (int b = 0; b < 6; b++) {
                    LoopPipeliner x = filled();
                    String at = "p4 apply(3, " + d + ", " + a + ", " + b + ")";
                    due(at, x.apply(3, d, a, b), 0);
                    x.run(1);
                    due(at + " get", x.get(d), a - b);
                    sameAsFilled(at, x, d, -1);
                }
            }
        }
    }

    private static void promise4Refusals() {
        int[] notApplied = {MIN, -1, 0, 1, 6, 8, 9, MAX};
        for (int bad : notApplied) {
            LoopPipeliner x = full();
            due("p4 full apply(" + bad + ", 0, 0, 0)", x.apply(bad, 0, 0, 0), BAD_ARG);
            stillFull("p4 bad op", x);
            due("p4 apply(" + bad + ", 0, 0, 0)", new LoopPipeliner().apply(bad, 0, 0, 0), BAD_ARG);
        }
        for (int bad : NO_REGISTER) {
            for (int op : new int[] {2, 3, 4, 5, 7}) {
                LoopPipeliner x = full();
                due("p4 full bad d", x.apply(op, bad, 0, 0), BAD_ARG);
                due("p4 full bad a", x.apply(op, 0, bad, 0), BAD_ARG);
                due("p4 full bad b", x.apply(op, 0, 0, bad), BAD_ARG);
                stillFull("p4 bad register", x);
                LoopPipeliner y = new LoopPipeliner();
                due("p4 bad d", y.apply(op, bad, 5, 5), BAD_ARG);
                due("p4 bad a", y.apply(op, 5, bad, 5), BAD_ARG);
                due("p4 bad b", y.apply(op, 5, 5, bad), BAD_ARG);
                due("p4 size() after refusals", y.size(), 0);
            }
        }
        for (int op : new int[] {2, 3, 4, 5, 7}) {
            LoopPipeliner x = full();
            due("p4 full apply(" + op + ", 5, 5, 5)", x.apply(op, 5, 5, 5), FULL);
            stillFull("p4 full", x);
        }
    }

    private static void promise5Constant() {
        for (int d = 0; d < 6; d++) {
            for (int k = -8; k <= 8; k++) {
                LoopPipeliner x = filled();
                String at = "p5 constant(" + d + ", " + k + ")";
                due(at, x.constant(d, k), 0);
                sameAsFilled(at + " before run", x, -1, -1);
                due(at + " run(3)", x.run(3), 3);
                due(at + " get", x.get(d), k);
                sameAsFilled(at, x, d, -1);
            }
        }
        refusedAsLoad("p5", "constant");
    }

    private static void promise6Unappend() {
        LoopPipeliner x = filled();
        due("p6 unappend() of nothing", x.unappend(), BAD_ARG);
        due("p6 size() after refusal", x.size(), 0);
        x.constant(0, 1);
        x.constant(0, 2);
        x.constant(0, 3);
        due("p6 unappend()", x.unappend(), 2);
        due("p6 size()", x.size(), 2);
        sameAsFilled("p6", x, -1, -1);
        x.run(1);
        due("p6 the last one is gone", x.get(0), 2);
        due("p6 its number is given again", x.constant(0, 4), 2);
        x.run(1);
        due("p6 the new last one", x.get(0), 4);
        due("p6 unappend()", x.unappend(), 2);
        due("p6 unappend()", x.unappend(), 1);
        due("p6 unappend()", x.unappend(), 0);
        due("p6 unappend() of nothing", x.unappend(), BAD_ARG);
        due("p6 run(12) of nothing", x.run(12), 0);
        sameAsFilled("p6 end", x, 0, -1);
        LoopPipeliner y = full();
        due("p6 full unappend()", y.unappend(), 9);
        due("p6 room again", y.apply(2, 0, 0, 1), 9);
        stillFull("p6 full again", y);
    }

    private static void promise7Clear() {
        LoopPipeliner x = full();
        x.clear();
        due("p7 size()", x.size(), 0);
        sameAsFilled("p7", x, -1, -1);
        due("p7 run(12)", x.run(12), 0);
        sameAsFilled("p7 after run", x, -1, -1);
        due("p7 unappend()", x.unappend(), BAD_ARG);
        due("p7 numbers begin anew", x.constant(3, 7), 0);
        x.run(1);
        due("p7 the new body", x.get(3), 7);
        sameAsFilled("p7 new body", x, 3, -1);
        LoopPipeliner y = filled();
        y.clear();
        due("p7 clear() of nothing", y.size(), 0);
        sameAsFilled("p7 clear of nothing", y, -1, -1);
    }

    private static void promise8Size() {
        LoopPipeliner x = new LoopPipeliner();
        for (int i = 0; i < 10; i++) {
            due("p8 size()", x.size(), i);
            x.load(0, 0);
        }
        due("p8 size() when full", x.size(), 10);
        x.load(0, 0);
        x.load(6, 0);
        due("p8 size() after refusals", x.size(), 10);
        x.run(3);
        due("p8 size() after a run", x.size(), 10);
        x.unappend();
        due("p8 size() after unappend", x.size(), 9);
    }

    private static void promise9And10SetAndGet() {
        for (int r = 0; r < 6; r++) {
            for (int v : new int[] {MIN, -1, 0, 1, MAX}) {
                LoopPipeliner x = filled();
                due("p9 set(" + r + ", " + v + ")", x.set(r, v), 0);
                due("p10 get(" + r + ")", x.get(r), v);
                sameAsFilled("p9 set", x, r, -1);
            }
        }
        for (int bad : NO_REGISTER) {
            LoopPipeliner x = filled();
            due("p9 set(" + bad + ", 1)", x.set(bad, 1), BAD_ARG);
            due("p10 get(" + bad + ")", x.get(bad), 0);
            sameAsFilled("p9 refused", x, -1, -1);
        }
    }

    private static void promise11And12PutAndCell() {
        for (int c = 0; c < 16; c++) {
            for (int v : new int[] {MIN, -1, 0, 1, MAX}) {
                LoopPipeliner x = filled();
                due("p11 put(" + c + ", " + v + ")", x.put(c, v), 0);
                due("p12 cell(" + c + ")", x.cell(c), v);
                sameAsFilled("p11 put", x, -1, c);
            }
        }
        for (int bad : NO_CELL) {
            LoopPipeliner x = filled();
            due("p11 put(" + bad + ", 1)", x.put(bad, 1), BAD_ARG);
            due("p12 cell(" + bad + ")", x.cell(bad), 0);
            sameAsFilled("p11 refused", x, -1, -1);
        }
    }

    private static void promise13Ramp() {
        int[][] ramps = {{0, 0}, {5, 3}, {-7, -2}, {MAX, 1}, {MIN, MIN}, {1, MAX}};
        for (int[] ramp : ramps) {
            LoopPipeliner x = full();
            String at = "p13 ramp(" + ramp[0] + ", " + ramp[1] + ")";
            due(at, x.ramp(ramp[0], ramp[1]), 0);
            for (int c = 0; c < 16; c++) {
                due(at + " cell(" + c + ")", x.cell(c), (int) (ramp[0] + (long) ramp[1] * c));
            }
            for (int r = 0; r < 6; r++) {
                due(at + " get(" + r + ")", x.get(r), 100 + r);
            }
            due(at + " size()", x.size(), 10);
        }
    }

    private static void promise14Run() {
        for (int n = 0; n <= 12; n++) {
            LoopPipeliner x = new LoopPipeliner();
            x.set(1, 3);
            x.apply(2, 0, 0, 1);
            x.store(0, 0);
            due("p14 run(" + n + ")", x.run(n), 2 * n);
            due("p14 get(0) after run(" + n + ")", x.get(0), 3 * n);
            for (int c = 0; c < 16; c++) {
                due("p14 cell(" + c + ") after run(" + n + ")", x.cell(c), c < n ? 3 * (c + 1) : 0);
            }
            due("p14 size() after a run", x.size(), 2);
            due("p14 i begins at 0 again", x.run(1), 2);
            due("p14 cell(0) of the second run", x.cell(0), 3 * (n + 1));
        }
        for (int bad : new int[] {MIN, -1, 13, 14, MAX}) {
            LoopPipeliner x = full();
            due("p14 run(" + bad + ")", x.run(bad), BAD_ARG);
            stillFull("p14 refused", x);
            due("p14 empty run(" + bad + ")", new LoopPipeliner().run(bad), BAD_ARG);
        }
        LoopPipeliner x = full();
        due("p14 run(12) of a full body", x.run(12), 120);
        due("p14 get(0)", x.get(0), 100 + 120 * 101);
        LoopPipeliner y = full();
        due("p14 run(0) of a full body", y.run(0), 0);
        stillFull("p14 run(0)", y);
    }

    private static void promise15Digest() {
        for (int r = 0; r < 6; r++) {
            LoopPipeliner x = new LoopPipeliner();
            x.set(r, 1000);
            due("p15 register " + r, x.digest(), (r + 1) * 1000);
            x.set(r, MAX);
            due("p15 register " + r + " wraps", x.digest(), (int) ((r + 1L) * MAX));
        }
        for (int c = 0; c < 16; c++) {
            LoopPipeliner x = new LoopPipeliner();
            x.put(c, -1000);
            due("p15 cell " + c, x.digest(), (c + 7) * -1000);
            x.put(c, MAX);
            due("p15 cell " + c + " wraps", x.digest(), (int) ((c + 7L) * MAX));
        }
        LoopPipeliner x = filled();
        long sum = 0;
        for (int r = 0; r < 6; r++) {
            sum += (r + 1) * (100 + r);
        }
        for (int c = 0; c < 16; c++) {
            sum += (c + 7) * (200 + c);
        }
        due("p15 filled", x.digest(), sum);
        x.load(0, 0);
        x.mode(2);
        due("p15 the body and the order do not count", x.digest(), sum);
        sameAsFilled("p15 digest changes nothing", x, -1, -1);
    }

    private static void promise16Mode() {
        for (int n = 0; n <= 3; n++) {
            LoopPipeliner x = full();
            due("p16 mode(" + n + ")", x.mode(n), 0);
            stillFull("p16 mode(" + n + ")", x);
        }
        for (int bad : new int[] {MIN, -1, 4, 5, MAX}) {
            LoopPipeliner x = full();
            due("p16 mode(" + bad + ")", x.mode(bad), BAD_ARG);
            stillFull("p16 refused", x);
            due("p16 empty mode(" + bad + ")", new LoopPipeliner().mode(bad), BAD_ARG);
        }
    }

    // Each body has one pair of instructions that may not change places.
    private static void promise16OrderIsNotSeen() {
        for (int mode = 0; mode <= 3; mode++) {
            String at = "p16 mode " + mode + ": ";
            LoopPipeliner x = filled();
            x.mode(mode);
            x.constant(0, 1);
            x.apply(2, 1, 1, 0);
            x.run(12);
            due(at + "a register is written, then read", x.get(1), 113);

            x = filled();
            x.mode(mode);
            x.apply(2, 1, 0, 0);
            x.constant(0, 5);
            x.run(1);
            due(at + "a register is read, then written", x.get(1), 200);

            x = filled();
            x.mode(mode);
            x.constant(0, 1);
            x.constant(0, 2);
            x.run(12);
            due(at + "a register is written twice", x.get(0), 2);

            x = filled();
            x.mode(mode);
            x.constant(0, 0);
            x.apply(7, 0, 1, 2);
            x.run(12);
            due(at + "pick reads its target", x.get(0), 102);

            x = filled();
            x.mode(mode);
            x.store(0, 1);
            x.load(1, 1);
            x.run(12);
            due(at + "a cell is written, then read", x.get(1), 100);

            x = filled();
            x.mode(mode);
            x.load(1, 8);
            x.store(0, -8);
            x.run(1);
            due(at + "a cell is read, then written", x.get(1), 208);

            x = filled();
            x.mode(mode);
            x.store(0, -8);
            x.store(1, 8);
            x.run(12);
            due(at + "a cell is written twice", x.cell(8), 101);

            x = filled();
            x.mode(mode);
            x.load(0, 0);
            x.store(0, 1);
            x.run(12);
            due(at + "a cell is written for the next turn", x.cell(12), 200);
        }
    }

    private static void promise17Numbers() {
        LoopPipeliner x = new LoopPipeliner();
        due("p17 first", x.load(0, 0), 0);
        due("p17 second", x.store(0, 0), 1);
        due("p17 refused ones have none", x.constant(0, 9), BAD_ARG);
        due("p17 third", x.apply(7, 0, 0, 0), 2);
        due("p17 fourth", x.constant(0, 0), 3);
        for (int i = 4; i < 10; i++) {
            due("p17 number " + i, x.load(5, -8), i);
        }
        due("p17 full", x.store(0, 0), FULL);
        due("p17 bad before full", x.store(0, 9), BAD_ARG);
        due("p17 the last number", x.unappend(), 9);
    }

    public static void main(String[] args) {
        due("BAD_ARG", LoopPipeliner.BAD_ARG, BAD_ARG);
        due("FULL", LoopPipeliner.FULL, FULL);
        promise1NewObject();
        promise2Load();
        promise3Store();
        promise4Results();
        promise4AllRegisters();
        promise4Refusals();
        promise5Constant();
        promise6Unappend();
        promise7Clear();
        promise8Size();
        promise9And10SetAndGet();
        promise11And12PutAndCell();
        promise13Ramp();
        promise14Run();
        promise15Digest();
        promise16Mode();
        promise16OrderIsNotSeen();
        promise17Numbers();
        checks.end("PromisesTest");
    }
}
