/**
 * A machine whose power fails again and again, and whose program runs to its end all the same.
 *
 * What lasts over a failure: the program, the cells, two banks that each hold one whole state of
 * the machine, and the word that says which bank is the good one. What is lost: the state in work.
 * After each instruction the state is written into the bank that is not the good one, and only
 * then does the one word make it the good one; so a failure at any tick leaves one whole state.
 *
 * An instruction that was cut off is done again from the good bank. That is safe because no
 * instruction reads a cell and writes one too: done twice, a store leaves what it leaves once.
 */
public final class PowerFailCore {
    public static final int SET = 0;
    public static final int ADD = 1;
    public static final int SUB = 2;
    public static final int MUL = 3;
    public static final int LOAD = 4;
    public static final int STORE = 5;
    public static final int LOADX = 6;
    public static final int STOREX = 7;
    public static final int IFPOS = 8;
    public static final int LOOP = 9;
    public static final int END = 10;
    public static final int BAD = -1;
    public static final int FULL = -2;
    public static final int UNSOUND = -3;

    private static final int REGISTERS = 4;
    private static final int CELLS = 12;
    private static final int INDEX_MASK = 7;
    private static final int MOST_INSTRUCTIONS = 30;
    private static final int MOST_REPEATS = 6;
    private static final int MOST_OPEN = 2;

    // A tick is one instruction fetched and begun, or one other word of lasting memory read or
    // written. To wake, to do one instruction and to save takes 27 at most, so the shortest
    // period gets on.
    private static final int SHORTEST_PERIOD = 40;
    private static final int LONGEST_PERIOD = 100;

    // Each time the power is there at least one instruction is done, and no program executes
    // more than 985: two loops of 6 passes around 26 instructions.
    private static final int MOST_POWERINGS = 1000000;

    // The words of a state: first the registers, then these.
    private static final int PLACE = 4;
    private static final int EXECUTED = 5;
    private static final int OPEN = 6;
    private static final int PASSES = 7;
    private static final int BODIES = 9;
    private static final int STATE = 11;
    private static final int BANKS = 2 * STATE;

    // Memory that lasts.
    private final int[] ops = new int[MOST_INSTRUCTIONS];
    private final int[] xs = new int[MOST_INSTRUCTIONS];
    private final int[] ys = new int[MOST_INSTRUCTIONS];
    private final int[] zs = new int[MOST_INSTRUCTIONS];
    private final int[] cells = new int[CELLS];
    private final int[] banks = new int[BANKS];
    private int count = 0;
    private int goodBank = 0;

    // Memory that is lost with the power.
    private final int[] work = new int[STATE];

    private int ticksLeft = 0;

    public PowerFailCore() {
    }

    public int emit(int op, int x, int y, int z) {
        if (count >= MOST_INSTRUCTIONS) {
            return FULL;
        }
        if (op < SET || op > END || !operandsFit(op, x, y, z)) {
            return BAD;
        }
        ops[count] = op;
        xs[count] = x;
        ys[count] = y;
        zs[count] = z;
        count++;
        return count;
    }

    public int retract() {
        if (count == 0) {
            return BAD;
        }
        count--;
        return count;
    }

    public boolean sound() {
        int open = 0;
        for (int at = 0; at < count; at++) {
            if (ops[at] == LOOP) {
                open++;
            } else if (ops[at] == END) {
                open--;
            } else if (ops[at] == IFPOS && !mayLeaveOut(at + 1, at + ys[at])) {
                return false;
            }
            if (open < 0 || open > MOST_OPEN) {
                return false;
            }
        }
        return open == 0;
    }

    public boolean setCell(int c, int value) {
        if (!isCell(c)) {
            return false;
        }
        cells[c] = value;
        return true;
    }

    public int run(int period) {
        if (!sound()) {
            return UNSOUND;
        }
        int ticks = clampPeriod(period);
        forgetBanks();
        for (int i = 0; i < MOST_POWERINGS && kept(PLACE) < count; i++) {
            losePower();
            ticksLeft = ticks;
            wake();
            workOn(ticks);
        }
        return kept(EXECUTED);
    }

    public int cell(int c) {
        return isCell(c) ? cells[c] : 0;
    }

    public int register(int r) {
        return isRegister(r) ? kept(r) : 0;
    }

    public void clear() {
        count = 0;
        for (int c = 0; c < CELLS; c++) {
            cells[c] = 0;
        }
        forgetBanks();
        losePower();
    }

    private static boolean isRegister(int r) {
        return r >= 0 && r < REGISTERS;
    }

    private static boolean isCell(int c) {
        return c >= 0 && c < CELLS;
    }

    private static boolean isRepeat(int n) {
        return n >= 1 && n <= MOST_REPEATS;
    }

    private static boolean operandsFit(int op, int x, int y, int z) {
        if (op == END) {
            return true;
        }
        if (op == LOOP) {
            return isRepeat(x);
        }
        if (!isRegister(x)) {
            return false;
        }
        switch (op) {
            case ADD:
            case SUB:
            case MUL:
                return isRegister(y) && isRegister(z);
            case LOAD:
            case STORE:
                return isCell(y);
            case LOADX:
            case STOREX:
                return isRegister(y);
            case IFPOS:
                return isRepeat(y);
            default:
                return true;
        }
    }

    private boolean mayLeaveOut(int first, int last) {
        if (last >= count) {
            return false;
        }
        for (int at = first; at <= last; at++) {
            if (ops[at] == LOOP || ops[at] == END) {
                return false;
            }
        }
        return true;
    }

    private static int clampPeriod(int period) {
        if (period < SHORTEST_PERIOD) {
            return SHORTEST_PERIOD;
        }
        return period > LONGEST_PERIOD ? LONGEST_PERIOD : period;
    }

    /** A word of the good bank, looked at from outside the machine: it costs no tick. */
    private int kept(int word) {
        return banks[goodBank * STATE + word];
    }

    private void forgetBanks() {
        for (int i = 0; i < BANKS; i++) {
            banks[i] = 0;
        }
        goodBank = 0;
    }

    private void losePower() {
        ticksLeft = 0;
        for (int word = 0; word < STATE; word++) {
            work[word] = 0;
        }
    }

    /** Spends a tick, and answers whether there was one: without power nothing is read or written. */
    private boolean tick() {
        if (ticksLeft <= 0) {
            return false;
        }
        ticksLeft--;
        return true;
    }

    private void wake() {
        int from = tick() ? goodBank * STATE : 0;
        for (int word = 0; word < STATE; word++) {
            if (tick()) {
                work[word] = banks[from + word];
            }
        }
    }

    private void save() {
        int other = tick() ? 1 - goodBank : 0;
        for (int word = 0; word < STATE; word++) {
            if (tick()) {
                banks[other * STATE + word] = work[word];
            }
        }
        if (tick()) {
            goodBank = other;
        }
    }

    private void workOn(int ticks) {
        for (int i = 0; i < ticks && ticksLeft > 0; i++) {
            int at = work[PLACE];
            if (at < 0 || at >= count) {
                return;
            }
            if (tick()) {
                execute(at);
                save();
            }
        }
    }

    private void execute(int at) {
        int op = ops[at];
        work[PLACE] = at + 1;
        work[EXECUTED]++;
        if (op == IFPOS) {
            leaveOutUnlessPositive(xs[at], ys[at]);
        } else if (op == LOOP) {
            openLoop(xs[at]);
        } else if (op == END) {
            endPass();
        } else if (op >= LOAD) {
            moveWord(op, xs[at], ys[at]);
        } else if (op == SET) {
            work[xs[at]] = ys[at];
        } else {
            calculate(op, xs[at], ys[at], zs[at]);
        }
    }

    private void leaveOutUnlessPositive(int r, int n) {
        if (work[r] <= 0) {
            work[PLACE] += n;
        }
    }

    private void openLoop(int n) {
        int loop = work[OPEN];
        if (loop >= 0 && loop < MOST_OPEN) {
            work[PASSES + loop] = n;
            work[BODIES + loop] = work[PLACE];
            work[OPEN] = loop + 1;
        }
    }

    private void endPass() {
        int loop = work[OPEN] - 1;
        if (loop >= 0 && loop < MOST_OPEN) {
            work[PASSES + loop]--;
            if (work[PASSES + loop] > 0) {
                work[PLACE] = work[BODIES + loop];
            } else {
                work[OPEN] = loop;
            }
        }
    }

    private void moveWord(int op, int r, int y) {
        boolean indexed = op == LOADX || op == STOREX;
        int c = indexed ? work[y] & INDEX_MASK : y;
        if (!tick()) {
            return;
        }
        if (op == LOAD || op == LOADX) {
            work[r] = cells[c];
        } else {
            cells[c] = work[r];
        }
    }

    private void calculate(int op, int r, int s, int t) {
        if (op == ADD) {
            work[r] = work[s] + work[t];
        } else if (op == SUB) {
            work[r] = work[s] - work[t];
        } else {
            work[r] = work[s] * work[t];
        }
    }
}
