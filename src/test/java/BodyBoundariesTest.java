import java.util.function.Supplier;

/** Promises 2 to 8 and 17, sentence by sentence: the body from none to ten, and the calls that change it. */
public final class BodyBoundariesTest {
    private static final int BAD_ARG = Samples.BAD_ARG;
    private static final int FULL = Samples.FULL;
    private static final int MIN = Samples.MIN;
    private static final int MAX = Samples.MAX;
    private static final int[] NO_REGISTER = {MIN, -1, 6, MAX};
    private static final int[] OUT_OF_REACH = {MIN, -9, 9, MAX};
    private static final int[] NOT_APPLIED = {MIN, -1, 0, 1, 6, 8, MAX};
    private static final Samples.Call[] ANY_APPEND = {
        x -> x.load(5, 8), x -> x.store(5, -8), x -> x.apply(7, 5, 0, 5), x -> x.constant(0, 8),
    };

    private static final Checks checks = new Checks();

    /** Load, store or constant: a register and a number. */
    private interface Append {
        int on(LoopPipeliner x, int r, int k);
    }

    private static void due(String what, long got, long want) {
        checks.due(what, got, want);
    }

    private static LoopPipeliner empty() {
        return new LoopPipeliner();
    }

    private static LoopPipeliner nine() {
        return Samples.withBody(9);
    }

    private static LoopPipeliner full() {
        return Samples.withBody(10);
    }

    private static void appending(String promise, String register, Append call) {
        checks.sentence(promise + ", " + register + " not 0 to 5 answers BAD_ARG", () -> badRegister(call));
        checks.sentence(promise + ", k not -8 to 8 answers BAD_ARG", () -> badNumber(call));
        checks.sentence(promise + ", FULL", () -> fullBody(call));
        checks.sentence(promise + ", BAD_ARG is tested before FULL", () -> badBeforeFull(call));
        checks.sentence(promise + ", otherwise its number", () -> itsNumber(call));
        checks.sentence(promise + ", refused it changes nothing", () -> refusedAppend(call));
        checks.sentence(promise + ", appended it changes nothing else", () -> {
            nothingElseChanged(x -> call.on(x, 0, -8));
            nothingElseChanged(x -> call.on(x, 5, 8));
        });
    }

    private static void nothingElseChanged(Samples.Call append) {
        for (int size = 0; size < 10; size++) {
            LoopPipeliner x = Samples.withBody(size);
            append.on(x);
            due("size() after " + size, x.size(), size + 1);
            Samples.sameNumbers(checks, "after " + size, x, Samples.filled());
            x.unappend();
            Samples.alike(checks, "after " + size + ", taken off again,", x, Samples.withBody(size));
        }
    }

    // Every other instruction comes before it, so what it leaves behind is what stands at the end.
    private static void appendedLast() {
        for (int size = 0; size < 10; size++) {
            LoopPipeliner x = Samples.withBody(size);
            x.load(2, 8);
            x.run(1);
            due("load after " + size, x.get(2), x.cell(8));
            x = Samples.withBody(size);
            x.store(3, 8);
            x.run(1);
            due("store after " + size, x.cell(8), x.get(3));
            x = Samples.withBody(size);
            x.apply(3, 4, 1, 3);
            x.run(1);
            due("apply after " + size, x.get(4), x.get(1) - x.get(3));
            x = Samples.withBody(size);
            x.constant(4, -3);
            x.run(1);
            due("constant after " + size, x.get(4), -3);
        }
    }

    private static void badRegister(Append call) {
        for (int k : new int[] {-8, 0, 8}) {
            Samples.range(checks, "r with k = " + k, 0, 5, r -> call.on(empty(), r, k), 0, BAD_ARG);
        }
    }

    private static void badNumber(Append call) {
        for (int r = 0; r < 6; r++) {
            int register = r;
            Samples.range(checks, "k with register " + r, -8, 8, k -> call.on(empty(), register, k), 0, BAD_ARG);
        }
    }

    private static void fullBody(Append call) {
        LoopPipeliner x = empty();
        for (int i = 0; i < 10; i++) {
            due("instruction " + i, call.on(x, 0, 0), i);
        }
        for (int r = 0; r < 6; r++) {
            for (int k = -8; k <= 8; k++) {
                due("full (" + r + ", " + k + ")", call.on(x, r, k), FULL);
            }
        }
        due("full of other instructions", call.on(full(), 0, 0), FULL);
        due("nine of other instructions", call.on(nine(), 0, 0), 9);
    }

    private static void badBeforeFull(Append call) {
        Samples.range(checks, "full, r", 0, 5, r -> call.on(full(), r, 0), FULL, BAD_ARG);
        Samples.range(checks, "full, k", -8, 8, k -> call.on(full(), 0, k), FULL, BAD_ARG);
        for (int r : NO_REGISTER) {
            for (int k : OUT_OF_REACH) {
                due("full, both wrong (" + r + ", " + k + ")", call.on(full(), r, k), BAD_ARG);
            }
        }
    }

    private static void itsNumber(Append call) {
        for (int r = 0; r < 6; r++) {
            for (int k = -8; k <= 8; k++) {
                due("the first one (" + r + ", " + k + ")", call.on(empty(), r, k), 0);
                due("the last one (" + r + ", " + k + ")", call.on(nine(), r, k), 9);
            }
        }
    }

    private static void refusedAppend(Append call) {
        for (int bad : NO_REGISTER) {
            Samples.changesNothing(checks, "r = " + bad, BAD_ARG, x -> call.on(x, bad, 1), 0, 1, 9, 10);
        }
        for (int bad : OUT_OF_REACH) {
            Samples.changesNothing(checks, "k = " + bad, BAD_ARG, x -> call.on(x, 1, bad), 0, 1, 9, 10);
        }
        Samples.changesNothing(checks, "full (0, -8)", FULL, x -> call.on(x, 0, -8), 10);
        Samples.changesNothing(checks, "full (5, 8)", FULL, x -> call.on(x, 5, 8), 10);
    }

    private static void applying() {
        checks.sentence("4 apply, op none of 2, 3, 4, 5 or 7 answers BAD_ARG", () -> badOp(LoopPipeliner::new, 0));
        checks.sentence("4 apply, d not 0 to 5 answers BAD_ARG", () -> {
            for (int op : Samples.APPLIED) {
                Samples.range(checks, "op " + op + ", d", 0, 5, d -> empty().apply(op, d, 0, 5), 0, BAD_ARG);
            }
        });
        checks.sentence("4 apply, a not 0 to 5 answers BAD_ARG", () -> {
            for (int op : Samples.APPLIED) {
                Samples.range(checks, "op " + op + ", a", 0, 5, a -> empty().apply(op, 5, a, 0), 0, BAD_ARG);
            }
        });
        checks.sentence("4 apply, b not 0 to 5 answers BAD_ARG", () -> {
            for (int op : Samples.APPLIED) {
                Samples.range(checks, "op " + op + ", b", 0, 5, b -> empty().apply(op, 0, 5, b), 0, BAD_ARG);
            }
        });
        checks.sentence("4 apply, FULL", BodyBoundariesTest::applyToFull);
        checks.sentence("4 apply, BAD_ARG is tested before FULL", BodyBoundariesTest::applyBadBeforeFull);
        checks.sentence("4 apply, otherwise its number", BodyBoundariesTest::applyItsNumber);
        checks.sentence("4 apply, refused it changes nothing", BodyBoundariesTest::refusedApply);
        checks.sentence("4 apply, appended it changes nothing else", () -> {
            for (int op : Samples.APPLIED) {
                nothingElseChanged(x -> x.apply(op, 0, 5, 0));
                nothingElseChanged(x -> x.apply(op, 5, 0, 5));
            }
        });
    }

    private static void badOp(Supplier<LoopPipeliner> start, int good) {
        for (int op : Samples.INTS) {
            boolean applied = 2 <= op && op <= 5 || op == 7;
            due("op " + op, start.get().apply(op, 0, 0, 0), applied ? good : BAD_ARG);
        }
    }

    private static void applyToFull() {
        for (int op : Samples.APPLIED) {
            LoopPipeliner x = empty();
            for (int i = 0; i < 10; i++) {
                due("op " + op + ", instruction " + i, x.apply(op, 0, 0, 0), i);
            }
            for (int r = 0; r < 6; r++) {
                due("op " + op + ", full, registers " + r, x.apply(op, r, r, r), FULL);
            }
            due("op " + op + ", full of other instructions", full().apply(op, 5, 0, 5), FULL);
        }
    }

    private static void applyBadBeforeFull() {
        badOp(BodyBoundariesTest::full, FULL);
        for (int op : Samples.APPLIED) {
            String at = "full, op " + op;
            Samples.range(checks, at + ", d", 0, 5, d -> full().apply(op, d, 0, 0), FULL, BAD_ARG);
            Samples.range(checks, at + ", a", 0, 5, a -> full().apply(op, 0, a, 0), FULL, BAD_ARG);
            Samples.range(checks, at + ", b", 0, 5, b -> full().apply(op, 0, 0, b), FULL, BAD_ARG);
        }
    }

    private static void applyItsNumber() {
        for (int op : Samples.APPLIED) {
            for (int registers = 0; registers < 6 * 6 * 6; registers++) {
                int d = registers % 6;
                int a = registers / 6 % 6;
                int b = registers / 36;
                String call = "apply(" + op + ", " + d + ", " + a + ", " + b + ")";
                due("the first one " + call, empty().apply(op, d, a, b), 0);
                due("the last one " + call, nine().apply(op, d, a, b), 9);
            }
        }
    }

    private static void refusedApply() {
        for (int bad : NOT_APPLIED) {
            Samples.changesNothing(checks, "op = " + bad, BAD_ARG, x -> x.apply(bad, 1, 2, 3), 0, 1, 9, 10);
        }
        for (int bad : NO_REGISTER) {
            Samples.changesNothing(checks, "d = " + bad, BAD_ARG, x -> x.apply(2, bad, 2, 3), 0, 1, 9, 10);
            Samples.changesNothing(checks, "a = " + bad, BAD_ARG, x -> x.apply(2, 1, bad, 3), 0, 1, 9, 10);
            Samples.changesNothing(checks, "b = " + bad, BAD_ARG, x -> x.apply(2, 1, 2, bad), 0, 1, 9, 10);
        }
        for (int op : Samples.APPLIED) {
            Samples.changesNothing(checks, "full, op " + op, FULL, x -> x.apply(op, 5, 0, 5), 10);
        }
    }

    private static void atMostTen() {
        checks.sentence("Terms, a body is a list of at most 10 instructions", () -> {
            for (Samples.Call last : ANY_APPEND) {
                for (Samples.Call more : ANY_APPEND) {
                    LoopPipeliner x = nine();
                    due("the tenth", last.on(x), 9);
                    due("an eleventh", more.on(x), FULL);
                    due("size()", x.size(), 10);
                    due("run(12)", x.run(12), 120);
                }
            }
        });
        checks.sentence("Terms, BAD_ARG = -1", () -> due("BAD_ARG", LoopPipeliner.BAD_ARG, -1));
        checks.sentence("Terms, FULL = -2", () -> due("FULL", LoopPipeliner.FULL, -2));
    }

    private static void unappending() {
        checks.sentence("6 unappend, removes the last instruction", BodyBoundariesTest::removesTheLast);
        checks.sentence("6 unappend, BAD_ARG if there is none", BodyBoundariesTest::noneToRemove);
        checks.sentence("6 unappend, otherwise its number", () -> {
            for (int size = 10; size >= 1; size--) {
                due("of " + size, Samples.withBody(size).unappend(), size - 1);
            }
        });
        checks.sentence("6 unappend, refused it changes nothing",
            () -> Samples.changesNothing(checks, "unappend()", BAD_ARG, LoopPipeliner::unappend, 0));
    }

    private static void removesTheLast() {
        for (int size = 1; size <= 10; size++) {
            LoopPipeliner x = Samples.withBody(size);
            x.unappend();
            Samples.alike(checks, "the last of " + size + " removed", x, Samples.withBody(size - 1));
        }
        LoopPipeliner x = full();
        x.unappend();
        due("room for one again", x.store(1, -1), 9);
        due("but not for two", x.store(1, -1), FULL);
        Samples.alike(checks, "the tenth removed and put back", x, full());
    }

    private static void noneToRemove() {
        LoopPipeliner x = empty();
        due("of a new object", x.unappend(), BAD_ARG);
        x.load(0, 0);
        due("of one", x.unappend(), 0);
        due("of none left", x.unappend(), BAD_ARG);
        due("and once more", x.unappend(), BAD_ARG);
        x.load(0, 0);
        x.clear();
        due("of none after clear", x.unappend(), BAD_ARG);
        due("the next one is still the first", x.load(0, 0), 0);
    }

    private static void clearing() {
        checks.sentence("7 clear, removes all instructions", () -> {
            for (int size = 0; size <= 10; size++) {
                LoopPipeliner x = Samples.withBody(size);
                x.clear();
                Samples.alike(checks, "clear() of " + size, x, Samples.filled());
            }
        });
        checks.sentence("7 clear, then there is room for ten again", () -> {
            LoopPipeliner x = full();
            x.clear();
            for (int i = 0; i < 10; i++) {
                due("instruction " + i, x.constant(i % 6, i - 5), i);
            }
            due("an eleventh", x.constant(0, 0), FULL);
            x.run(1);
            for (int r = 0; r < 6; r++) {
                due("of the new body, get(" + r + ")", x.get(r), r < 4 ? r + 1 : r - 5);
            }
        });
    }

    private static void counting() {
        checks.sentence("8 size, the number of instructions, 0 to 10", () -> {
            for (int size = 0; size <= 10; size++) {
                due("of " + size, Samples.withBody(size).size(), size);
            }
        });
        checks.sentence("8 size, it changes nothing", () -> {
            for (int size = 0; size <= 10; size++) {
                Samples.changesNothing(checks, "size()", size, LoopPipeliner::size, size);
            }
        });
        checks.sentence("8 size, refused ones do not count", () -> {
            LoopPipeliner x = empty();
            x.load(6, 0);
            x.unappend();
            due("none", x.size(), 0);
            x = full();
            x.load(0, 0);
            x.store(0, 0);
            x.apply(2, 0, 0, 0);
            x.constant(0, 0);
            due("full", x.size(), 10);
        });
    }

    private static void numbering() {
        checks.sentence("17, 0 for the first one, 1 for the next, and so on", () -> {
            for (int size = 0; size < 10; size++) {
                due("load after " + size, Samples.withBody(size).load(0, 0), size);
                due("store after " + size, Samples.withBody(size).store(0, 0), size);
                due("apply after " + size, Samples.withBody(size).apply(7, 0, 0, 0), size);
                due("constant after " + size, Samples.withBody(size).constant(0, 0), size);
            }
        });
        checks.sentence("17, a number is a place: refused, removed and cleared ones take none", () -> {
            LoopPipeliner x = Samples.withBody(4);
            x.load(0, 9);
            x.apply(6, 0, 0, 0);
            due("after refused ones", x.constant(0, 0), 4);
            x.unappend();
            x.unappend();
            due("after removed ones", x.constant(0, 0), 3);
            x.clear();
            due("after clear", x.constant(0, 0), 0);
        });
    }

    public static void main(String[] args) {
        appending("2 load", "d", LoopPipeliner::load);
        appending("3 store", "a", LoopPipeliner::store);
        applying();
        appending("5 constant", "d", LoopPipeliner::constant);
        checks.sentence("2 to 5, appends: it comes after all that stand", BodyBoundariesTest::appendedLast);
        atMostTen();
        unappending();
        clearing();
        counting();
        numbering();
        checks.end("BodyBoundariesTest");
    }
}
