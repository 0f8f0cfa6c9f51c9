/** Each promise of the document with ordinary inputs; its edges and wrong inputs are in the boundary tests. */
public final class PromisesTest {
    private static final Checks checks = new Checks();

    private static void due(String what, long got, long want) {
        checks.due(what, got, want);
    }

    /** The numbers are those of Samples.filled(), but for one register and one cell. */
    private static void sameAsFilled(String where, LoopPipeliner x, int exceptRegister, int exceptCell) {
        for (int r = 0; r < 6; r++) {
            if (r != exceptRegister) {
                due(where + " get(" + r + ")", x.get(r), 100 + r);
            }
        }
        for (int c = 0; c < 16; c++) {
            if (c != exceptCell) {
                due(where + " cell(" + c + ")", x.cell(c), 200 + c);
            }
        }
    }

    private static void newObject() {
        LoopPipeliner x = new LoopPipeliner();
        due("get(3)", x.get(3), 0);
        due("cell(9)", x.cell(9), 0);
        due("size()", x.size(), 0);
    }

    private static void load() {
        LoopPipeliner x = Samples.filled();
        due("load(2, 3)", x.load(2, 3), 0);
        sameAsFilled("before the run", x, -1, -1);
        due("run(1)", x.run(1), 1);
        due("get(2) after one turn", x.get(2), 203);
        due("run(5)", x.run(5), 5);
        due("get(2) after five turns", x.get(2), 207);
        sameAsFilled("after the runs", x, 2, -1);
    }

    private static void store() {
        LoopPipeliner x = Samples.filled();
        due("store(4, 2)", x.store(4, 2), 0);
        sameAsFilled("before the run", x, -1, -1);
        due("run(1)", x.run(1), 1);
        due("cell(2)", x.cell(2), 104);
        sameAsFilled("after one turn", x, -1, 2);
        due("run(3)", x.run(3), 3);
        due("cell(3)", x.cell(3), 104);
        due("cell(4)", x.cell(4), 104);
        due("cell(5)", x.cell(5), 205);
    }

    private static int applied(int op, int d, int a, int b) {
        LoopPipeliner x = new LoopPipeliner();
        x.set(0, d);
        x.set(1, a);
        x.set(2, b);
        due("apply(" + op + ", 0, 1, 2)", x.apply(op, 0, 1, 2), 0);
        due("run(1)", x.run(1), 1);
        return x.get(0);
    }

    private static void apply() {
        due("add", applied(2, 9, 30, 12), 42);
        due("sub", applied(3, 9, 30, 12), 18);
        due("mul", applied(4, 9, 30, -12), -360);
        due("less", applied(5, 9, 12, 30), 1);
        due("not less", applied(5, 9, 30, 12), 0);
        due("pick by 9", applied(7, 9, 30, 12), 30);
        due("pick by 0", applied(7, 0, 30, 12), 12);
    }

    private static void applyToAnyRegisters() {
        for (int d = 0; d < 6; d++) {
            for (int a = 0; a < 6; a++) {
                for (int b = 0; b < 6; b++) {
                    appliedTo(2, d, a, b, 100 + a + 100 + b);
                    appliedTo(3, d, a, b, a - b);
                    appliedTo(4, d, a, b, (100 + a) * (100 + b));
                    appliedTo(5, d, a, b, a < b ? 1 : 0);
                    appliedTo(7, d, a, b, 100 + a);
                }
            }
        }
    }

    private static void appliedTo(int op, int d, int a, int b, int want) {
        LoopPipeliner x = Samples.filled();
        String call = "apply(" + op + ", " + d + ", " + a + ", " + b + ")";
        due(call, x.apply(op, d, a, b), 0);
        sameAsFilled(call + " before the run", x, -1, -1);
        due(call + " run(1)", x.run(1), 1);
        due(call + " get(" + d + ")", x.get(d), want);
        sameAsFilled(call, x, d, -1);
    }

    private static void constant() {
        LoopPipeliner x = Samples.filled();
        due("constant(3, -4)", x.constant(3, -4), 0);
        sameAsFilled("before the run", x, -1, -1);
        due("run(3)", x.run(3), 3);
        due("get(3)", x.get(3), -4);
        sameAsFilled("after the run", x, 3, -1);
    }

    private static void unappend() {
        LoopPipeliner x = Samples.filled();
        x.constant(0, 1);
        x.constant(0, 2);
        x.constant(0, 3);
        due("unappend()", x.unappend(), 2);
        x.run(1);
        due("the last one is gone", x.get(0), 2);
        due("its number is given again", x.constant(0, 4), 2);
        x.run(1);
        due("the new last one", x.get(0), 4);
    }

    private static void clear() {
        LoopPipeliner x = Samples.withBody(4);
        x.clear();
        due("run(3)", x.run(3), 0);
        sameAsFilled("after clear()", x, -1, -1);
        due("numbers begin anew", x.constant(3, 7), 0);
        x.run(1);
        due("the new body", x.get(3), 7);
    }

    private static void size() {
        LoopPipeliner x = new LoopPipeliner();
        x.load(0, 0);
        x.store(0, 0);
        x.apply(2, 0, 0, 0);
        x.constant(0, 0);
        due("size()", x.size(), 4);
        x.run(3);
        due("size() after a run", x.size(), 4);
        x.unappend();
        due("size() after unappend()", x.size(), 3);
        x.clear();
        due("size() after clear()", x.size(), 0);
    }

    private static void setAndGet() {
        LoopPipeliner x = Samples.filled();
        due("set(2, 42)", x.set(2, 42), 0);
        due("get(2)", x.get(2), 42);
        sameAsFilled("after set(2, 42)", x, 2, -1);
    }

    private static void putAndCell() {
        LoopPipeliner x = Samples.filled();
        due("put(9, 42)", x.put(9, 42), 0);
        due("cell(9)", x.cell(9), 42);
        sameAsFilled("after put(9, 42)", x, -1, 9);
    }

    private static void ramp() {
        LoopPipeliner x = Samples.filled();
        due("ramp(5, 3)", x.ramp(5, 3), 0);
        for (int c = 0; c < 16; c++) {
            due("cell(" + c + ")", x.cell(c), 5 + 3 * c);
        }
        due("get(1)", x.get(1), 101);
    }

    private static void run() {
        LoopPipeliner x = new LoopPipeliner();
        x.set(1, 3);
        x.apply(2, 0, 0, 1);
        x.store(0, 0);
        due("run(7)", x.run(7), 14);
        due("get(0)", x.get(0), 21);
        for (int c = 0; c < 16; c++) {
            due("cell(" + c + ")", x.cell(c), c < 7 ? 3 * (c + 1) : 0);
        }
    }

    private static void digest() {
        LoopPipeliner x = new LoopPipeliner();
        x.set(0, 1000);
        x.set(5, 100);
        x.put(0, 10);
        x.put(15, 1);
        due("digest()", x.digest(), 1000 + 600 + 70 + 22);
    }

    private static void mode() {
        for (int mode = 0; mode <= 3; mode++) {
            LoopPipeliner x = new LoopPipeliner();
            due("mode(" + mode + ")", x.mode(mode), 0);
            x.ramp(1, 1);
            x.load(0, 0);
            x.apply(2, 1, 1, 0);
            x.store(1, 1);
            due("run(4) in mode " + mode, x.run(4), 12);
            due("get(1) in mode " + mode, x.get(1), 8);
            due("cell(4) in mode " + mode, x.cell(4), 8);
        }
    }

    private static void numbers() {
        LoopPipeliner x = new LoopPipeliner();
        due("the first one", x.load(0, 0), 0);
        due("the second one", x.store(0, 0), 1);
        due("the third one", x.apply(7, 0, 0, 0), 2);
        due("the fourth one", x.constant(0, 0), 3);
    }

    public static void main(String[] args) {
        checks.sentence("1 a new object", PromisesTest::newObject);
        checks.sentence("2 load", PromisesTest::load);
        checks.sentence("3 store", PromisesTest::store);
        checks.sentence("4 apply", PromisesTest::apply);
        checks.sentence("4 apply, any registers", PromisesTest::applyToAnyRegisters);
        checks.sentence("5 constant", PromisesTest::constant);
        checks.sentence("6 unappend", PromisesTest::unappend);
        checks.sentence("7 clear", PromisesTest::clear);
        checks.sentence("8 size", PromisesTest::size);
        checks.sentence("9 set and 10 get", PromisesTest::setAndGet);
        checks.sentence("11 put and 12 cell", PromisesTest::putAndCell);
        checks.sentence("13 ramp", PromisesTest::ramp);
        checks.sentence("14 run", PromisesTest::run);
        checks.sentence("15 digest", PromisesTest::digest);
        checks.sentence("16 mode", PromisesTest::mode);
        checks.sentence("17 order and limits", PromisesTest::numbers);
        checks.end("PromisesTest");
    }
}
