/** Short ways to write programs, to drive cores and to see all of an object at once. */
final class Sections {
    /** Where seen() puts the memory, and where in a core's part it puts what. */
    static final int MEMORY = 1;
    static final int STATE = 0;
    static final int PC = 1;
    static final int ATTEMPTS = 2;
    static final int CAUSE = 3;
    static final int CODE = 4;
    static final int REG = 5;
    static final int RESULT = 9;
    static final int COUNT = 13;
    static final int LINE = 16;
    private static final int CORE_SIZE = 33;

    private Sections() {
    }

    /** Where the part of a core begins in what seen() answers. */
    static int part(int core) {
        return MEMORY + 64 + CORE_SIZE * core;
    }

    static int[] loadi(int a, int b) {
        return new int[] {LockElision.OP_LOADI, a, b};
    }

    static int[] load(int a, int addr) {
        return new int[] {LockElision.OP_LOAD, a, addr};
    }

    static int[] store(int a, int addr) {
        return new int[] {LockElision.OP_STORE, a, addr};
    }

    static int[] add(int a, int b) {
        return new int[] {LockElision.OP_ADD, a, b};
    }

    static int[] addi(int a, int b) {
        return new int[] {LockElision.OP_ADDI, a, b};
    }

    static int[] loadx(int a, int b) {
        return new int[] {LockElision.OP_LOADX, a, b};
    }

    static int[] storex(int a, int b) {
        return new int[] {LockElision.OP_STOREX, a, b};
    }

    static int[] xabort(int code) {
        return new int[] {LockElision.OP_XABORT, 0, code};
    }

    static int[] jnz(int a, int by) {
        return new int[] {LockElision.OP_JNZ, a, by};
    }

    /** Gives the core this program and enters it. */
    static void start(LockElision x, int core, int[]... program) {
        must(x.clearProgram(core));
        for (int[] one : program) {
            must(x.append(core, one[0], one[1], one[2]) > 0);
        }
        must(x.enter(core));
    }

    /** Starts the program and steps until the core speculates at the given pc. */
    static void speculate(LockElision x, int core, int pc, int[]... program) {
        start(x, core, program);
        must(x.step(core) == LockElision.STEP_BEGAN);
        steps(x, core, pc);
    }

    /** Takes the lock on the core by an explicit abort; the program's pc stands at 1 after it. */
    static void lock(LockElision x, int core, int[]... program) {
        int[][] whole = new int[program.length + 1][];
        whole[0] = xabort(0);
        System.arraycopy(program, 0, whole, 1, program.length);
        start(x, core, whole);
        must(x.step(core) == LockElision.STEP_BEGAN);
        must(x.step(core) == LockElision.STEP_ABORTED);
        must(x.step(core) == LockElision.STEP_ACQUIRED);
        must(x.step(core) == LockElision.STEP_EXECUTED);
    }

    static void steps(LockElision x, int core, int number) {
        for (int i = 0; i < number; i++) {
            must(x.step(core) == LockElision.STEP_EXECUTED);
        }
    }

    /** Steps as long as instructions are executed and gives the first other answer. */
    static int runOn(LockElision x, int core) {
        int answer = LockElision.STEP_EXECUTED;
        for (int i = 0; i <= LockElision.PROGRAM_MAX && answer == LockElision.STEP_EXECUTED; i++) {
            answer = x.step(core);
        }
        return answer;
    }

    /** Every answer that the looking methods can give for inputs in range. */
    static int[] seen(LockElision x) {
        int[] all = new int[part(4)];
        all[0] = x.lockOwner();
        for (int addr = 0; addr < 64; addr++) {
            all[MEMORY + addr] = x.peek(addr);
        }
        for (int core = 0; core < 4; core++) {
            int at = part(core);
            all[at + STATE] = x.state(core);
            all[at + PC] = x.pc(core);
            all[at + ATTEMPTS] = x.attempts(core);
            all[at + CAUSE] = x.lastCause(core);
            all[at + CODE] = x.abortCode(core);
            for (int r = 0; r < 4; r++) {
                all[at + REG + r] = x.reg(core, r);
                all[at + RESULT + r] = x.result(core, r);
            }
            for (int kind = 0; kind < 3; kind++) {
                all[at + COUNT + kind] = x.count(core, kind);
            }
            for (int line = 0; line <= 16; line++) {
                all[at + LINE + line] = x.lineState(core, line);
            }
        }
        return all;
    }

    /** Writes an abort of the core, its first since enter, into what is due. */
    static void fallen(int[] want, int core, int cause, int state) {
        int at = part(core);
        want[at + STATE] = state;
        want[at + PC] = 0;
        want[at + ATTEMPTS] = 1;
        want[at + CAUSE] = cause;
        for (int r = 0; r < 4; r++) {
            want[at + REG + r] = 0;
        }
        want[at + COUNT + LockElision.COUNT_ABORTS]++;
        for (int line = 0; line <= 16; line++) {
            want[at + LINE + line] = 0;
        }
    }

    /** A test that can't be set up is a failed test. */
    static void must(boolean holds) {
        if (!holds) {
            throw new IllegalStateException("the test's own set-up was refused");
        }
    }
}
