import java.util.TreeSet;
import java.util.function.IntUnaryOperator;

/** Objects and ints that the tests of the boundaries share. */
final class Samples {
    static final int BAD_ARG = -1;
    static final int FULL = -2;
    static final int MIN = Integer.MIN_VALUE;
    static final int MAX = Integer.MAX_VALUE;
    static final int[] APPLIED = {2, 3, 4, 5, 7};
    static final int[] EXTREMES = {MIN, MIN + 1, -65536, -1, 0, 1, 65536, MAX - 1, MAX};

    /** Around 0, around every power of two and its negative, and at both ends of int. */
    static final int[] INTS = wideInts();

    /** All eight instructions, each reading what an earlier one wrote, so that a change in any is seen. */
    private static final Call[] BODY = {
        x -> x.load(0, -8),
        x -> x.apply(2, 1, 0, 5),
        x -> x.apply(3, 2, 1, 4),
        x -> x.apply(4, 3, 2, 1),
        x -> x.apply(5, 4, 3, 2),
        x -> x.apply(7, 4, 0, 3),
        x -> x.constant(5, 7),
        x -> x.store(4, 8),
        x -> x.load(2, 3),
        x -> x.store(1, -1),
    };

    private Samples() {
    }

    interface Call {
        int on(LoopPipeliner x);
    }

    private static int[] wideInts() {
        TreeSet<Integer> ints = new TreeSet<>();
        for (int power = 0; power < 32; power++) {
            for (int off = -17; off <= 17; off++) {
                ints.add((1 << power) + off);
                ints.add(-(1 << power) + off);
            }
        }
        return ints.stream().mapToInt(Integer::intValue).toArray();
    }

    /** Register r holds 100 + r and cell c holds 200 + c. */
    static LoopPipeliner filled() {
        LoopPipeliner x = new LoopPipeliner();
        for (int r = 0; r < 6; r++) {
            x.set(r, 100 + r);
        }
        for (int c = 0; c < 16; c++) {
            x.put(c, 200 + c);
        }
        return x;
    }

    /** Filled, with the first instructions of a body of ten. */
    static LoopPipeliner withBody(int size) {
        LoopPipeliner x = filled();
        for (int i = 0; i < size; i++) {
            BODY[i].on(x);
        }
        return x;
    }

    /** What the call answers is good from low to high, and bad for every other int. */
    static void range(Checks checks, String call, int low, int high, IntUnaryOperator answer, int good, int bad) {
        for (int v : INTS) {
            checks.due(call + " of " + v, answer.applyAsInt(v), low <= v && v <= high ? good : bad);
        }
    }

    static void sameNumbers(Checks checks, String where, LoopPipeliner x, LoopPipeliner y) {
        for (int r = 0; r < 6; r++) {
            checks.due(where + " get(" + r + ")", x.get(r), y.get(r));
        }
        for (int c = 0; c < 16; c++) {
            checks.due(where + " cell(" + c + ")", x.cell(c), y.cell(c));
        }
        checks.due(where + " digest()", x.digest(), y.digest());
    }

    /** No call tells x from y: their numbers, and their bodies by what they do as they are taken apart. */
    static void alike(Checks checks, String where, LoopPipeliner x, LoopPipeliner y) {
        // Taken before any look at the numbers: a look that changed both bodies would hide itself.
        int size = y.size();
        checks.due(where + " size()", x.size(), size);
        sameNumbers(checks, where, x, y);
        for (int left = size; left >= 0; left--) {
            String at = where + ", " + left + " left,";
            checks.due(at + " size()", x.size(), left);
            checks.due(at + " run(12)", x.run(12), y.run(12));
            sameNumbers(checks, at, x, y);
            checks.due(at + " unappend()", x.unappend(), y.unappend());
        }
    }

    /** The call answers this and changes nothing, whether the body has so many or so many instructions. */
    static void changesNothing(Checks checks, String words, int answer, Call call, int... sizes) {
        for (int size : sizes) {
            LoopPipeliner x = withBody(size);
            String at = words + " with " + size + " instructions";
            checks.due(at, call.on(x), answer);
            alike(checks, "after " + at, x, withBody(size));
        }
    }
}
