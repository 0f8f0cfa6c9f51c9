/** What holds for every call, sentence by sentence: none throws, and an object is good for 512 of them. */
public final class AnyCallBoundariesTest {
    private static final int BAD_ARG = Samples.BAD_ARG;
    private static final int FULL = Samples.FULL;
    private static final int MIN = Samples.MIN;
    private static final int MAX = Samples.MAX;
    private static final int MOST_CALLS = 512;
    private static final int CALLS_OF_FILLED = 22;
    private static final int[] SIZES = {0, 1, 9, 10};
    private static final int[] CORNERS = {
        MIN, MIN + 1, -9, -8, -1, 0, 1, 2, 5, 6, 7, 8, 9, 12, 13, 15, 16, MAX - 1, MAX
    };

    private static final Checks checks = new Checks();

    private static void due(String what, long got, long want) {
        checks.due(what, got, want);
    }

    private static void oneArgument(LoopPipeliner x, int n) {
        x.get(n);
        x.cell(n);
        x.mode(n);
        x.run(n);
    }

    private static void twoArguments(LoopPipeliner x, int p, int q) {
        x.set(p, q);
        x.put(p, q);
        x.ramp(p, q);
        x.load(p, q);
        x.store(p, q);
        x.constant(p, q);
        x.run(12);
        x.digest();
    }

    private static void noArgument(LoopPipeliner x) {
        x.size();
        x.digest();
        x.unappend();
        x.clear();
        x.unappend();
        x.clear();
        x.run(12);
    }

    private static void noneThrows() {
        checks.sentence("Terms, no call ever throws: without an argument", () -> {
            for (int size : SIZES) {
                noArgument(Samples.withBody(size));
            }
            checks.holds("all answered", true);
        });
        checks.sentence("Terms, no call ever throws: with one argument", () -> {
            for (int size : SIZES) {
                for (int n : Samples.INTS) {
                    oneArgument(Samples.withBody(size), n);
                }
            }
            checks.holds("all answered", true);
        });
        checks.sentence("Terms, no call ever throws: with two arguments", () -> {
            for (int size : SIZES) {
                for (int p : Samples.INTS) {
                    for (int q : CORNERS) {
                        twoArguments(Samples.withBody(size), p, q);
                        twoArguments(Samples.withBody(size), q, p);
                    }
                }
            }
            checks.holds("all answered", true);
        });
        checks.sentence("Terms, no call ever throws: nor does one after the 512th", () -> {
            LoopPipeliner x = Samples.withBody(10);
            for (int n : Samples.INTS) {
                oneArgument(x, n);
                twoArguments(x, n, n);
                x.apply(n, n, n, n);
            }
            noArgument(x);
            checks.holds("all answered", true);
        });
        checks.sentence("Terms, no call ever throws: apply", () -> {
            for (int op : CORNERS) {
                for (int d : CORNERS) {
                    for (int a : CORNERS) {
                        applyAtCorners(op, d, a);
                    }
                }
            }
            checks.holds("all answered", true);
        });
    }

    private static void applyAtCorners(int op, int d, int a) {
        LoopPipeliner x = new LoopPipeliner();
        for (int r = 0; r < 6; r++) {
            x.set(r, r % 2 == 0 ? MIN : MAX);
        }
        for (int b : CORNERS) {
            x.apply(op, d, a, b);
        }
        x.run(12);
    }

    /** Nine instructions, and all calls but the last one that the object is good for. */
    private static LoopPipeliner beforeItsLastCall() {
        LoopPipeliner x = Samples.filled();
        for (int i = 0; i < 9; i++) {
            x.apply(3, 0, 0, 0);
        }
        for (int calls = CALLS_OF_FILLED + 9; calls < MOST_CALLS - 1; calls++) {
            x.load(6, calls);
        }
        return x;
    }

    private static void lastCall(String call, int want, Samples.Call last) {
        due("as the 512th call, " + call, last.on(beforeItsLastCall()), want);
    }

    private static void theLastCall() {
        lastCall("load(5, 8)", 9, x -> x.load(5, 8));
        lastCall("load(5, 9)", BAD_ARG, x -> x.load(5, 9));
        lastCall("store(5, -8)", 9, x -> x.store(5, -8));
        lastCall("apply(7, 5, 0, 5)", 9, x -> x.apply(7, 5, 0, 5));
        lastCall("constant(0, 8)", 9, x -> x.constant(0, 8));
        lastCall("unappend()", 8, LoopPipeliner::unappend);
        lastCall("size()", 9, LoopPipeliner::size);
        lastCall("set(5, 1)", 0, x -> x.set(5, 1));
        lastCall("get(5)", 105, x -> x.get(5));
        lastCall("put(15, 1)", 0, x -> x.put(15, 1));
        lastCall("cell(15)", 215, x -> x.cell(15));
        lastCall("ramp(1, 1)", 0, x -> x.ramp(1, 1));
        lastCall("run(12)", 108, x -> x.run(12));
        lastCall("digest()", Samples.filled().digest(), LoopPipeliner::digest);
        lastCall("mode(3)", 0, x -> x.mode(3));
        lastCall("clear()", 0, x -> {
            x.clear();
            return 0;
        });
    }

    private static void manyCalls() {
        checks.sentence("What it is, 512 calls: the last one answers as any other", AnyCallBoundariesTest::theLastCall);
        checks.sentence("What it is, 512 calls: run again and again", () -> {
            LoopPipeliner x = Samples.filled();
            for (int i = 0; i < 10; i++) {
                x.apply(2, 0, 0, 1);
            }
            int runs = MOST_CALLS - CALLS_OF_FILLED - 10 - 1;
            for (int run = 0; run < runs; run++) {
                due("run(12) number " + run, x.run(12), 120);
            }
            due("get(0)", x.get(0), 100 + 101 * 120 * runs);
        });
        checks.sentence("What it is, 512 calls: filled and emptied again and again", () -> {
            LoopPipeliner x = new LoopPipeliner();
            for (int calls = 0; calls + 23 <= MOST_CALLS; calls += 23) {
                for (int number = 0; number < 10; number++) {
                    due("constant", x.constant(number % 6, 8), number);
                }
                due("the eleventh", x.constant(0, 8), FULL);
                due("run(12)", x.run(12), 120);
                for (int number = 9; number >= 0; number--) {
                    due("unappend", x.unappend(), number);
                }
                due("unappend of none", x.unappend(), BAD_ARG);
            }
        });
    }

    public static void main(String[] args) {
        noneThrows();
        manyCalls();
        checks.end("AnyCallBoundariesTest");
    }
}
