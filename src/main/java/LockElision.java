/**
 * Four simulated cores whose critical sections run speculatively with their one lock left out,
 * and fall back to the lock when speculation fails. The caller drives one core step at a time.
 */
public final class LockElision {
    public static final int CORES = 4;
    public static final int WORDS = 64;
    public static final int LOCK_LINE = 16;
    public static final int PROGRAM_MAX = 16;
    public static final int OP_LOADI = 0;
    public static final int OP_LOAD = 1;
    public static final int OP_STORE = 2;
    public static final int OP_ADD = 3;
    public static final int OP_ADDI = 4;
    public static final int OP_LOADX = 5;
    public static final int OP_STOREX = 6;
    public static final int OP_XABORT = 7;
    public static final int OP_JNZ = 8;
    public static final int STATE_IDLE = 0;
    public static final int STATE_READY = 1;
    public static final int STATE_SPEC = 2;
    public static final int STATE_WAITLOCK = 3;
    public static final int STATE_LOCKED = 4;
    public static final int STEP_REFUSED = -1;
    public static final int STEP_IDLE = 0;
    public static final int STEP_BLOCKED = 1;
    public static final int STEP_BEGAN = 2;
    public static final int STEP_ACQUIRED = 3;
    public static final int STEP_EXECUTED = 4;
    public static final int STEP_ABORTED = 5;
    public static final int STEP_COMMITTED = 6;
    public static final int STEP_RELEASED = 7;
    public static final int CAUSE_NONE = 0;
    public static final int CAUSE_CONFLICT = 1;
    public static final int CAUSE_CAPACITY = 2;
    public static final int CAUSE_EXPLICIT = 3;
    public static final int CAUSE_LOCK = 4;
    public static final int COUNT_ELIDED = 0;
    public static final int COUNT_LOCKED = 1;
    public static final int COUNT_ABORTS = 2;
    public static final int READ_BIT = 1;
    public static final int WRITE_BIT = 2;

    private static final int REGISTERS = 4;
    private static final int LINE_WORDS = 4;
    private static final int LINES = 17;
    private static final int KINDS = 3;
    private static final int ADDRESS_MASK = 63;
    private static final int NO_OWNER = -1;
    private static final int NO_CODE = 0;
    private static final int WAYS_MAX = 4;
    private static final int SETS_MAX = 4;
    private static final int RETRIES_MAX = 7;

    private static final int ALL_INSTRUCTIONS = CORES * PROGRAM_MAX;
    private static final int ALL_REGISTERS = CORES * REGISTERS;
    private static final int ALL_LINES = CORES * LINES;
    private static final int ALL_WORDS = CORES * WORDS;
    private static final int ALL_COUNTERS = CORES * KINDS;

    private final int ways;
    private final int sets;
    private final int retries;

    private final int[] memory = new int[WORDS];
    private int owner = NO_OWNER;

    // What belongs to a core lies in one row of these arrays, the rows one after another,
    // because arrays here have one dimension only.
    private final int[] ops = new int[ALL_INSTRUCTIONS];
    private final int[] operandsA = new int[ALL_INSTRUCTIONS];
    private final int[] operandsB = new int[ALL_INSTRUCTIONS];
    private final int[] lengths = new int[CORES];
    private final int[] states = new int[CORES];
    private final int[] pcs = new int[CORES];
    private final int[] registers = new int[ALL_REGISTERS];
    private final int[] results = new int[ALL_REGISTERS];
    private final int[] footprints = new int[ALL_LINES];
    private final int[] bufferedValues = new int[ALL_WORDS];
    private final boolean[] isBuffered = new boolean[ALL_WORDS];
    private final int[] abortsSinceEnter = new int[CORES];
    private final int[] causes = new int[CORES];
    private final int[] codes = new int[CORES];
    private final int[] counters = new int[ALL_COUNTERS];

    public LockElision(int ways, int sets, int retries) {
        this.ways = clamp(ways, 1, WAYS_MAX);
        this.sets = clamp(sets, 1, SETS_MAX);
        this.retries = clamp(retries, 0, RETRIES_MAX);
    }

    public int append(int core, int op, int a, int b) {
        if (!isCore(core) || states[core] != STATE_IDLE) {
            return -1;
        }
        int length = lengths[core];
        if (length >= PROGRAM_MAX || !isInstruction(op, a, b)) {
            return -1;
        }
        int at = core * PROGRAM_MAX + length;
        ops[at] = op;
        operandsA[at] = a;
        operandsB[at] = b;
        lengths[core] = length + 1;
        return length + 1;
    }

    public boolean clearProgram(int core) {
        if (!isCore(core) || states[core] != STATE_IDLE) {
            return false;
        }
        lengths[core] = 0;
        return true;
    }

    public boolean enter(int core) {
        if (!isCore(core) || states[core] != STATE_IDLE || lengths[core] == 0) {
            return false;
        }
        states[core] = STATE_READY;
        restartProgram(core);
        abortsSinceEnter[core] = 0;
        causes[core] = CAUSE_NONE;
        codes[core] = NO_CODE;
        return true;
    }

    public int step(int core) {
        if (!isCore(core)) {
            return STEP_REFUSED;
        }
        boolean atEnd = pcs[core] >= lengths[core];
        switch (states[core]) {
            case STATE_READY:
                return begin(core);
            case STATE_WAITLOCK:
                return acquire(core);
            case STATE_SPEC:
                return atEnd ? commit(core) : executeSpeculatively(core);
            case STATE_LOCKED:
                return atEnd ? release(core) : executeOnMemory(core);
            default:
                return STEP_IDLE;
        }
    }

    public boolean poke(int addr, int value) {
        if (!isAddress(addr) || isAnyRunning()) {
            return false;
        }
        memory[addr] = value;
        return true;
    }

    public int peek(int addr) {
        return isAddress(addr) ? memory[addr] : 0;
    }

    public int state(int core) {
        return isCore(core) ? states[core] : -1;
    }

    public int pc(int core) {
        return isCore(core) ? pcs[core] : -1;
    }

    public int reg(int core, int r) {
        return isCore(core) && isRegister(r) ? registers[core * REGISTERS + r] : 0;
    }

    public int result(int core, int r) {
        return isCore(core) && isRegister(r) ? results[core * REGISTERS + r] : 0;
    }

    public int attempts(int core) {
        return isCore(core) ? abortsSinceEnter[core] : -1;
    }

    public int lastCause(int core) {
        return isCore(core) ? causes[core] : -1;
    }

    public int abortCode(int core) {
        return isCore(core) ? codes[core] : 0;
    }

    public int count(int core, int kind) {
        boolean isKind = kind >= 0 && kind < KINDS;
        return isCore(core) && isKind ? counters[core * KINDS + kind] : -1;
    }

    public int lockOwner() {
        return owner;
    }

    public int lineState(int core, int line) {
        boolean isLine = line >= 0 && line < LINES;
        return isCore(core) && isLine ? footprints[core * LINES + line] : -1;
    }

    private static int clamp(int value, int least, int most) {
        if (value < least) {
            return least;
        }
        return value > most ? most : value;
    }

    private static boolean isCore(int core) {
        return core >= 0 && core < CORES;
    }

    private static boolean isAddress(int addr) {
        return addr >= 0 && addr < WORDS;
    }

    private static boolean isRegister(int r) {
        return r >= 0 && r < REGISTERS;
    }

    private static boolean isInstruction(int op, int a, int b) {
        if (!isRegister(a)) {
            return false;
        }
        switch (op) {
            case OP_LOADI:
            case OP_ADDI:
            case OP_XABORT:
                return true;
            case OP_LOAD:
            case OP_STORE:
                return isAddress(b);
            case OP_ADD:
            case OP_LOADX:
            case OP_STOREX:
                return isRegister(b);
            case OP_JNZ:
                return b >= 1 && b <= PROGRAM_MAX;
            default:
                return false;
        }
    }

    private static boolean isLoad(int op) {
        return op == OP_LOAD || op == OP_LOADX;
    }

    private static boolean isStore(int op) {
        return op == OP_STORE || op == OP_STOREX;
    }

    private boolean isAnyRunning() {
        for (int core = 0; core < CORES; core++) {
            if (states[core] == STATE_SPEC || states[core] == STATE_LOCKED) {
                return true;
            }
        }
        return false;
    }

    private int begin(int core) {
        if (owner != NO_OWNER) {
            return STEP_BLOCKED;
        }
        states[core] = STATE_SPEC;
        restartProgram(core);
        dropSpeculation(core);
        // Reading the lock line is the subscription: it takes a way of set 0 from the section.
        footprints[core * LINES + LOCK_LINE] = READ_BIT;
        return STEP_BEGAN;
    }

    private int acquire(int core) {
        if (owner != NO_OWNER) {
            return STEP_BLOCKED;
        }
        owner = core;
        for (int other = 0; other < CORES; other++) {
            if (states[other] == STATE_SPEC) {
                abort(other, CAUSE_LOCK, NO_CODE);
            }
        }
        states[core] = STATE_LOCKED;
        restartProgram(core);
        return STEP_ACQUIRED;
    }

    private int commit(int core) {
        for (int addr = 0; addr < WORDS; addr++) {
            if (isBuffered[core * WORDS + addr]) {
                memory[addr] = bufferedValues[core * WORDS + addr];
            }
        }
        dropSpeculation(core);
        complete(core, COUNT_ELIDED);
        return STEP_COMMITTED;
    }

    private int release(int core) {
        owner = NO_OWNER;
        complete(core, COUNT_LOCKED);
        return STEP_RELEASED;
    }

    private void complete(int core, int kind) {
        for (int r = 0; r < REGISTERS; r++) {
            results[core * REGISTERS + r] = registers[core * REGISTERS + r];
        }
        counters[core * KINDS + kind]++;
        states[core] = STATE_IDLE;
    }

    private int executeSpeculatively(int core) {
        int at = core * PROGRAM_MAX + pcs[core];
        int op = ops[at];
        if (op == OP_XABORT) {
            abort(core, CAUSE_EXPLICIT, operandsB[at]);
            return STEP_ABORTED;
        }
        boolean store = isStore(op);
        if (!store && !isLoad(op)) {
            executeOnRegisters(core, at);
            return STEP_EXECUTED;
        }
        int addr = addressOf(core, at);
        int line = addr / LINE_WORDS;
        // Capacity comes first: a section that overflows must not abort the others.
        if (overflows(core, line)) {
            abort(core, CAUSE_CAPACITY, NO_CODE);
            return STEP_ABORTED;
        }
        abortConflicting(core, line, store);
        int register = core * REGISTERS + operandsA[at];
        int word = core * WORDS + addr;
        if (store) {
            footprints[core * LINES + line] |= WRITE_BIT;
            bufferedValues[word] = registers[register];
            isBuffered[word] = true;
        } else {
            footprints[core * LINES + line] |= READ_BIT;
            registers[register] = isBuffered[word] ? bufferedValues[word] : memory[addr];
        }
        pcs[core]++;
        return STEP_EXECUTED;
    }

    private int executeOnMemory(int core) {
        int at = core * PROGRAM_MAX + pcs[core];
        boolean store = isStore(ops[at]);
        if (!store && !isLoad(ops[at])) {
            executeOnRegisters(core, at);
            return STEP_EXECUTED;
        }
        int addr = addressOf(core, at);
        int register = core * REGISTERS + operandsA[at];
        if (store) {
            memory[addr] = registers[register];
        } else {
            registers[register] = memory[addr];
        }
        pcs[core]++;
        return STEP_EXECUTED;
    }

    private void executeOnRegisters(int core, int at) {
        int register = core * REGISTERS + operandsA[at];
        int b = operandsB[at];
        int next = pcs[core] + 1;
        switch (ops[at]) {
            case OP_LOADI:
                registers[register] = b;
                break;
            case OP_ADD:
                registers[register] += registers[core * REGISTERS + b];
                break;
            case OP_ADDI:
                registers[register] += b;
                break;
            case OP_JNZ:
                next = registers[register] != 0 ? pcs[core] + b : next;
                break;
            default:
                // OP_XABORT under the lock: there is nothing left to fall back to.
                break;
        }
        pcs[core] = next > lengths[core] ? lengths[core] : next;
    }

    private int addressOf(int core, int at) {
        int b = operandsB[at];
        boolean indexed = ops[at] == OP_LOADX || ops[at] == OP_STOREX;
        return indexed ? registers[core * REGISTERS + b] & ADDRESS_MASK : b;
    }

    private boolean overflows(int core, int line) {
        if (footprints[core * LINES + line] != 0) {
            return false;
        }
        int set = setOf(line);
        int held = 0;
        for (int other = 0; other < LINES; other++) {
            int otherSet = setOf(other);
            if (otherSet == set && footprints[core * LINES + other] != 0) {
                held++;
            }
        }
        return held >= ways;
    }

    private int setOf(int line) {
        // The lock line is in set 0 by decree: with three sets its number alone would say 1.
        // The constructor lets no number of sets below 1 in, so it can always divide.
        return line == LOCK_LINE ? 0 : line % sets;
    }

    private void abortConflicting(int core, int line, boolean store) {
        int conflicting = store ? READ_BIT | WRITE_BIT : WRITE_BIT;
        for (int other = 0; other < CORES; other++) {
            boolean rival = other != core && states[other] == STATE_SPEC;
            if (rival && (footprints[other * LINES + line] & conflicting) != 0) {
                abort(other, CAUSE_CONFLICT, NO_CODE);
            }
        }
    }

    private void abort(int core, int cause, int code) {
        dropSpeculation(core);
        restartProgram(core);
        abortsSinceEnter[core]++;
        counters[core * KINDS + COUNT_ABORTS]++;
        causes[core] = cause;
        codes[core] = code;
        // These two come from the section itself, so another try would most likely meet them again.
        boolean ownFault = cause == CAUSE_CAPACITY || cause == CAUSE_EXPLICIT;
        boolean fallsBack = ownFault || abortsSinceEnter[core] > retries;
        states[core] = fallsBack ? STATE_WAITLOCK : STATE_READY;
    }

    private void dropSpeculation(int core) {
        for (int line = 0; line < LINES; line++) {
            footprints[core * LINES + line] = 0;
        }
        for (int addr = 0; addr < WORDS; addr++) {
            isBuffered[core * WORDS + addr] = false;
        }
    }

    private void restartProgram(int core) {
        pcs[core] = 0;
        for (int r = 0; r < REGISTERS; r++) {
            registers[core * REGISTERS + r] = 0;
        }
    }
}
