public final class LoopPipeliner {
    public static final int BAD_ARG = -1;
    public static final int FULL = -2;

    private static final int LOAD = 0;
    private static final int STORE = 1;
    private static final int ADD = 2;
    private static final int SUB = 3;
    private static final int MUL = 4;
    private static final int LESS = 5;
    private static final int CONST = 6;
    private static final int PICK = 7;

    private static final int REGISTERS = 6;
    private static final int CELLS = 16;
    private static final int LAST_CELL = 15;
    private static final int REACH = 8;
    private static final int MOST_INSTRUCTIONS = 10;
    private static final int MOST_TURNS = 12;
    private static final int MOST_STEPS = 120;
    private static final int LAST_ORDER = 3;

    private final int[] registers = new int[REGISTERS];
    private final int[] cells = new int[CELLS];

    private final int[] ops = new int[MOST_INSTRUCTIONS];
    private final int[] targets = new int[MOST_INSTRUCTIONS];
    private final int[] lefts = new int[MOST_INSTRUCTIONS];
    private final int[] rights = new int[MOST_INSTRUCTIONS];
    private final int[] numbers = new int[MOST_INSTRUCTIONS];
    private int count;

    private int order;

    // A step is one instruction in one turn of the loop. What it reads and
    // writes is a set of bits, registers first and cells above them.
    private final int[] stepPlace = new int[MOST_STEPS];
    private final int[] stepTurn = new int[MOST_STEPS];
    private final int[] stepReads = new int[MOST_STEPS];
    private final int[] stepWrites = new int[MOST_STEPS];
    private final boolean[] stepDone = new boolean[MOST_STEPS];

    public LoopPipeliner() {
        count = 0;
        order = 0;
    }

    public int load(int d, int k) {
        if (!isRegister(d) || !isInReach(k)) {
            return BAD_ARG;
        }
        return append(LOAD, d, 0, 0, k);
    }

    public int store(int a, int k) {
        if (!isRegister(a) || !isInReach(k)) {
            return BAD_ARG;
        }
        return append(STORE, 0, a, 0, k);
    }

    public int apply(int op, int d, int a, int b) {
        if (!isApplied(op) || !isRegister(d) || !isRegister(a) || !isRegister(b)) {
            return BAD_ARG;
        }
        return append(op, d, a, b, 0);
    }

    public int constant(int d, int k) {
        if (!isRegister(d) || !isInReach(k)) {
            return BAD_ARG;
        }
        return append(CONST, d, 0, 0, k);
    }

    public int unappend() {
        if (count == 0) {
            return BAD_ARG;
        }
        count--;
        return count;
    }

    public void clear() {
        count = 0;
    }

    public int size() {
        return count;
    }

    public int set(int r, int v) {
        if (!isRegister(r)) {
            return BAD_ARG;
        }
        registers[r] = v;
        return 0;
    }

    public int get(int r) {
        return isRegister(r) ? registers[r] : 0;
    }

    public int put(int c, int v) {
        if (!isCell(c)) {
            return BAD_ARG;
        }
        cells[c] = v;
        return 0;
    }

    public int cell(int c) {
        return isCell(c) ? cells[c] : 0;
    }

    public int ramp(int a, int b) {
        for (int c = 0; c < CELLS; c++) {
            cells[c] = a + b * c;
        }
        return 0;
    }

    public int run(int n) {
        if (n < 0 || n > MOST_TURNS) {
            return BAD_ARG;
        }
        int steps = n * count;
        laySteps(n);
        performSteps(steps);
        return steps;
    }

    public int digest() {
        int sum = 0;
        for (int r = 0; r < REGISTERS; r++) {
            sum += (r + 1) * registers[r];
        }
        for (int c = 0; c < CELLS; c++) {
            sum += (c + 7) * cells[c];
        }
        return sum;
    }

    public int mode(int n) {
        if (n < 0 || n > LAST_ORDER) {
            return BAD_ARG;
        }
        order = n;
        return 0;
    }

    private static boolean isRegister(int r) {
        return r >= 0 && r < REGISTERS;
    }

    private static boolean isCell(int c) {
        return c >= 0 && c < CELLS;
    }

    private static boolean isInReach(int k) {
        return k >= -REACH && k <= REACH;
    }

    private static boolean isApplied(int op) {
        return op == ADD || op == SUB || op == MUL || op == LESS || op == PICK;
    }

    private int append(int op, int d, int a, int b, int k) {
        if (count == MOST_INSTRUCTIONS) {
            return FULL;
        }
        ops[count] = op;
        targets[count] = d;
        lefts[count] = a;
        rights[count] = b;
        numbers[count] = k;
        count++;
        return count - 1;
    }

    private void laySteps(int turns) {
        int step = 0;
        for (int turn = 0; turn < turns; turn++) {
            for (int place = 0; place < count; place++) {
                stepPlace[step] = place;
                stepTurn[step] = turn;
                stepReads[step] = readsOf(place, turn);
                stepWrites[step] = writesOf(place, turn);
                stepDone[step] = false;
                step++;
            }
        }
    }

    // The order lets a step go ahead of the oldest one that is left by so many
    // turns: 0 is the order as written.
    private void performSteps(int steps) {
        int ahead = order * count;
        int oldest = 0;
        for (int performed = 0; performed < steps; performed++) {
            while (oldest < steps - 1 && stepDone[oldest]) {
                oldest++;
            }
            int end = oldest + ahead + 1;
            int step = chooseStep(oldest, end < steps ? end : steps);
            perform(stepPlace[step], stepTurn[step]);
            stepDone[step] = true;
        }
    }

    // A step may overtake the earlier ones that are left only if neither it nor
    // they write what the other reads or writes: so no order can be seen.
    private int chooseStep(int oldest, int end) {
        int chosen = oldest;
        int read = 0;
        int written = 0;
        for (int step = oldest; step < end; step++) {
            if (!stepDone[step]) {
                int clash = (stepReads[step] & written) | (stepWrites[step] & (read | written));
                if (clash == 0) {
                    chosen = step;
                }
                read |= stepReads[step];
                written |= stepWrites[step];
            }
        }
        return chosen;
    }

    private int readsOf(int place, int turn) {
        int operands = registerBit(lefts[place]) | registerBit(rights[place]);
        switch (ops[place]) {
            case LOAD:
                return cellBit(place, turn);
            case STORE:
                return registerBit(lefts[place]);
            case CONST:
                return 0;
            case PICK:
                return operands | registerBit(targets[place]);
            default:
                return operands;
        }
    }

    private int writesOf(int place, int turn) {
        if (ops[place] == STORE) {
            return cellBit(place, turn);
        }
        return registerBit(targets[place]);
    }

    private int cellAt(int place, int turn) {
        return (turn + numbers[place]) & LAST_CELL;
    }

    private static int registerBit(int r) {
        return 1 << r;
    }

    private int cellBit(int place, int turn) {
        int c = cellAt(place, turn);
        return 1 << (REGISTERS + c);
    }

    private void perform(int place, int turn) {
        if (ops[place] == STORE) {
            int c = cellAt(place, turn);
            cells[c] = registers[lefts[place]];
        } else {
            int result = resultOf(place, turn);
            registers[targets[place]] = result;
        }
    }

    private int resultOf(int place, int turn) {
        int a = registers[lefts[place]];
        int b = registers[rights[place]];
        int c = cellAt(place, turn);
        switch (ops[place]) {
            case LOAD:
                return cells[c];
            case ADD:
                return a + b;
            case SUB:
                return a - b;
            case MUL:
                return a * b;
            case LESS:
                return a < b ? 1 : 0;
            case CONST:
                return numbers[place];
            default:
                return registers[targets[place]] != 0 ? a : b;
        }
    }
}
