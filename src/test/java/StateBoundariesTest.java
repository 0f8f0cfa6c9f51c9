/** Promises 1, 9 to 13 and 15, sentence by sentence: the registers and the cells, and the ints they hold. */
public final class StateBoundariesTest {
    private static final int BAD_ARG = Samples.BAD_ARG;
    private static final int MIN = Samples.MIN;
    private static final int MAX = Samples.MAX;

    private static final Checks checks = new Checks();

    private static void due(String what, long got, long want) {
        checks.due(what, got, want);
    }

    private static void newObject() {
        checks.sentence("1, all registers are 0", () -> {
            for (int r = 0; r < 6; r++) {
                due("get(" + r + ")", new LoopPipeliner().get(r), 0);
            }
        });
        checks.sentence("1, all cells are 0", () -> {
            for (int c = 0; c < 16; c++) {
                due("cell(" + c + ")", new LoopPipeliner().cell(c), 0);
            }
        });
        checks.sentence("1, the body has no instruction", () -> {
            due("size()", new LoopPipeliner().size(), 0);
            due("unappend()", new LoopPipeliner().unappend(), BAD_ARG);
            due("run(12)", new LoopPipeliner().run(12), 0);
        });
        checks.sentence("1, a new object shares nothing with one in use", () -> {
            Samples.withBody(10).run(12);
            LoopPipeliner x = new LoopPipeliner();
            Samples.withBody(10).run(12);
            for (int r = 0; r < 6; r++) {
                due("get(" + r + ")", x.get(r), 0);
            }
            for (int c = 0; c < 16; c++) {
                due("cell(" + c + ")", x.cell(c), 0);
            }
            due("size()", x.size(), 0);
        });
    }

    private static void registers() {
        checks.sentence("9 set, register r becomes v", () -> {
            for (int r = 0; r < 6; r++) {
                for (int v : Samples.EXTREMES) {
                    LoopPipeliner x = Samples.filled();
                    x.set(r, v);
                    oneRegisterChanged("set(" + r + ", " + v + ")", x, r, v);
                }
            }
        });
        checks.sentence("9 set, BAD_ARG if r is not 0 to 5, else 0", () -> {
            for (int v : Samples.EXTREMES) {
                Samples.range(checks, "r with v = " + v, 0, 5, r -> new LoopPipeliner().set(r, v), 0, BAD_ARG);
            }
        });
        checks.sentence("9 set, refused it changes nothing", () -> {
            for (int r : new int[] {MIN, -1, 6, MAX}) {
                Samples.changesNothing(checks, "set(" + r + ", 7)", BAD_ARG, x -> x.set(r, 7), 0, 1, 10);
            }
        });
        checks.sentence("10 get, register r; 0 if r is not 0 to 5", () -> {
            for (int r : Samples.INTS) {
                boolean register = 0 <= r && r <= 5;
                due("get(" + r + ")", Samples.filled().get(r), register ? 100 + r : 0);
            }
        });
        checks.sentence("9 set, the cells and the body stay", () -> {
            for (int r = 0; r < 6; r++) {
                int register = r;
                Samples.changesNothing(checks, "set(" + r + ", 7) and back", 0,
                    x -> x.set(register, 7) + x.set(register, 100 + register), 0, 1, 10);
            }
        });
        checks.sentence("10 get, it changes nothing", () -> {
            for (int r : new int[] {MIN, -1, 0, 1, 2, 3, 4, 5, 6, MAX}) {
                boolean register = 0 <= r && r <= 5;
                Samples.changesNothing(checks, "get(" + r + ")", register ? 100 + r : 0, x -> x.get(r), 0, 10);
            }
        });
    }

    private static void oneRegisterChanged(String call, LoopPipeliner x, int changed, int v) {
        for (int r = 0; r < 6; r++) {
            due(call + ", get(" + r + ")", x.get(r), r == changed ? v : 100 + r);
        }
        for (int c = 0; c < 16; c++) {
            due(call + ", cell(" + c + ")", x.cell(c), 200 + c);
        }
    }

    private static void cells() {
        checks.sentence("11 put, the cell c becomes v", () -> {
            for (int c = 0; c < 16; c++) {
                for (int v : Samples.EXTREMES) {
                    LoopPipeliner x = Samples.filled();
                    x.put(c, v);
                    oneCellChanged("put(" + c + ", " + v + ")", x, c, v);
                }
            }
        });
        checks.sentence("11 put, BAD_ARG if c is not 0 to 15, else 0", () -> {
            for (int v : Samples.EXTREMES) {
                Samples.range(checks, "c with v = " + v, 0, 15, c -> new LoopPipeliner().put(c, v), 0, BAD_ARG);
            }
        });
        checks.sentence("11 put, refused it changes nothing", () -> {
            for (int c : new int[] {MIN, -1, 16, MAX}) {
                Samples.changesNothing(checks, "put(" + c + ", 7)", BAD_ARG, x -> x.put(c, 7), 0, 1, 10);
            }
        });
        checks.sentence("12 cell, the cell c; 0 if c is not 0 to 15", () -> {
            for (int c : Samples.INTS) {
                boolean inList = 0 <= c && c <= 15;
                due("cell(" + c + ")", Samples.filled().cell(c), inList ? 200 + c : 0);
            }
        });
        checks.sentence("11 put, the registers and the body stay", () -> {
            for (int c = 0; c < 16; c++) {
                int inList = c;
                Samples.changesNothing(checks, "put(" + c + ", 7) and back", 0,
                    x -> x.put(inList, 7) + x.put(inList, 200 + inList), 0, 1, 10);
            }
        });
        checks.sentence("12 cell, it changes nothing", () -> {
            for (int c = -1; c <= 16; c++) {
                int looked = c;
                boolean inList = 0 <= c && c <= 15;
                Samples.changesNothing(checks, "cell(" + c + ")", inList ? 200 + c : 0, x -> x.cell(looked), 0, 10);
            }
            for (int c : new int[] {MIN, MAX}) {
                Samples.changesNothing(checks, "cell(" + c + ")", 0, x -> x.cell(c), 0, 10);
            }
        });
    }

    private static void oneCellChanged(String call, LoopPipeliner x, int changed, int v) {
        for (int r = 0; r < 6; r++) {
            due(call + ", get(" + r + ")", x.get(r), 100 + r);
        }
        for (int c = 0; c < 16; c++) {
            due(call + ", cell(" + c + ")", x.cell(c), c == changed ? v : 200 + c);
        }
    }

    private static int rampCell(int a, int b, int c) {
        LoopPipeliner x = Samples.filled();
        x.ramp(a, b);
        return x.cell(c);
    }

    private static void ramps() {
        checks.sentence("13 ramp, every cell c becomes a + b c, from 0 to 15", () -> {
            for (int c = 0; c < 16; c++) {
                due("ramp(1000, 3), cell " + c, rampCell(1000, 3, c), 1000 + 3 * c);
                due("ramp(0, 0), cell " + c, rampCell(0, 0, c), 0);
                due("ramp(-5, -1), cell " + c, rampCell(-5, -1, c), -5 - c);
            }
        });
        checks.sentence("13 ramp, the sum wraps around", () -> {
            due("ramp(MAX, 1), cell 0", rampCell(MAX, 1, 0), MAX);
            due("ramp(MAX, 1), cell 1", rampCell(MAX, 1, 1), MIN);
            due("ramp(MAX, 1), cell 15", rampCell(MAX, 1, 15), MIN + 14);
            due("ramp(MIN, -1), cell 1", rampCell(MIN, -1, 1), MAX);
            due("ramp(MIN, -1), cell 15", rampCell(MIN, -1, 15), MAX - 14);
        });
        checks.sentence("13 ramp, the product wraps around", () -> {
            due("ramp(0, MAX), cell 2", rampCell(0, MAX, 2), -2);
            due("ramp(0, MAX), cell 15", rampCell(0, MAX, 15), MAX - 14);
            due("ramp(0, MIN), cell 1", rampCell(0, MIN, 1), MIN);
            due("ramp(0, MIN), cell 2", rampCell(0, MIN, 2), 0);
            due("ramp(0, 268435456), cell 8", rampCell(0, 268435456, 8), MIN);
            due("ramp(MIN, MIN), cell 15", rampCell(MIN, MIN, 15), 0);
            due("ramp(MAX, MAX), cell 15", rampCell(MAX, MAX, 15), -16);
        });
        checks.sentence("13 ramp, answers 0", () -> {
            for (int a : Samples.EXTREMES) {
                for (int b : Samples.EXTREMES) {
                    due("ramp(" + a + ", " + b + ")", new LoopPipeliner().ramp(a, b), 0);
                }
            }
        });
        checks.sentence("13 ramp, the registers and the body stay", () -> {
            for (int size = 0; size <= 10; size++) {
                LoopPipeliner x = Samples.withBody(size);
                x.ramp(200, 1);
                Samples.alike(checks, "ramp(200, 1) with " + size, x, Samples.withBody(size));
            }
        });
    }

    private static void digests() {
        checks.sentence("15 digest, over the registers r of (r + 1) times its number", () -> {
            for (int r = 0; r < 6; r++) {
                for (int v : Samples.EXTREMES) {
                    LoopPipeliner x = new LoopPipeliner();
                    x.set(r, v);
                    due("register " + r + " is " + v, x.digest(), (int) ((r + 1L) * v));
                }
            }
        });
        checks.sentence("15 digest, over the cells c of (c + 7) times its number", () -> {
            for (int c = 0; c < 16; c++) {
                for (int v : Samples.EXTREMES) {
                    LoopPipeliner x = new LoopPipeliner();
                    x.put(c, v);
                    due("cell " + c + " is " + v, x.digest(), (int) ((c + 7L) * v));
                }
            }
        });
        checks.sentence("15 digest, the sum of all of them, wrapping", StateBoundariesTest::digestWraps);
        checks.sentence("15 digest, of a new object", () -> due("digest()", new LoopPipeliner().digest(), 0));
        checks.sentence("15 digest, the body and the order are not in it, and it changes nothing", () -> {
            int plain = Samples.filled().digest();
            for (int size = 0; size <= 10; size++) {
                LoopPipeliner x = Samples.withBody(size);
                x.mode(size % 4);
                due("digest() with " + size, x.digest(), plain);
                Samples.alike(checks, "after digest() with " + size, x, Samples.withBody(size));
            }
        });
    }

    private static LoopPipeliner allAre(int v) {
        LoopPipeliner x = new LoopPipeliner();
        x.ramp(v, 0);
        for (int r = 0; r < 6; r++) {
            x.set(r, v);
        }
        return x;
    }

    private static void digestWraps() {
        LoopPipeliner x = new LoopPipeliner();
        x.set(0, MAX);
        x.set(1, 1);
        due("two registers, up", x.digest(), MIN + 1);
        x.set(0, MIN);
        x.set(1, -1);
        due("two registers, down", x.digest(), MAX - 1);
        x = new LoopPipeliner();
        x.set(0, MAX);
        x.put(0, 1);
        due("a register and a cell, up", x.digest(), MIN + 6);
        x = new LoopPipeliner();
        x.put(0, 306783378);
        due("cell 0 alone, just not", x.digest(), MAX - 1);
        x.put(15, 1);
        due("two cells, up", x.digest(), MIN + 20);
        x.put(0, -306783378);
        x.put(15, -1);
        due("two cells, down", x.digest(), MAX - 19);
        // 1 + .. + 6 and 7 + .. + 22 are 253 together.
        for (int v : Samples.EXTREMES) {
            due("all are " + v, allAre(v).digest(), (int) (253L * v));
        }
    }

    public static void main(String[] args) {
        newObject();
        registers();
        cells();
        ramps();
        digests();
        checks.end("StateBoundariesTest");
    }
}
