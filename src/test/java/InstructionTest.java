import java.util.Arrays;

/** "Instructions": each row of the table and each sentence beside it; a program runs elided and under the lock. */
public final class InstructionTest {
    private static final Check CHECK = new Check();
    private static final int LEAST = Integer.MIN_VALUE;
    private static final int MOST = Integer.MAX_VALUE;

    public static void main(String[] args) {
        CHECK.sentence("The value a names register r[a], 0..3.", InstructionTest::aNamesTheRegister);
        CHECK.sentence("| `OP_LOADI` | 0 | r[a] = b | any int |", InstructionTest::loadi);
        CHECK.sentence("| `OP_LOAD` | 1 | r[a] = word at address b | 0..63 |", InstructionTest::load);
        CHECK.sentence("| `OP_STORE` | 2 | word at address b = r[a] | 0..63 |", InstructionTest::store);
        CHECK.sentence("| `OP_ADD` | 3 | r[a] = r[a] + r[b] | 0..3 |", InstructionTest::add);
        CHECK.sentence("| `OP_ADDI` | 4 | r[a] = r[a] + b | any int |", InstructionTest::addi);
        CHECK.sentence("| `OP_LOADX` | 5 | r[a] = word at address (r[b] & 63) | 0..3 |", InstructionTest::loadx);
        CHECK.sentence("| `OP_STOREX` | 6 | word at address (r[b] & 63) = r[a] | 0..3 |", InstructionTest::storex);
        CHECK.sentence("| `OP_XABORT` | 7 | explicit abort with code b | any int |", InstructionTest::xabort);
        CHECK.sentence("| `OP_JNZ` | 8 | if r[a] != 0 then pc = pc + b, but at most the program length; otherwise pc = pc + 1"
                + " | 1..16 |", InstructionTest::jnz);
        CHECK.sentence("Every other instruction sets pc = pc + 1 after its effect.", InstructionTest::pcAdvancesByOne);
        CHECK.sentence("Exception: `OP_XABORT` executed in SPEC aborts the core and leaves pc = 0; pc is not advanced"
                + " afterwards.", InstructionTest::explicitAbortLeavesPc0);
        CHECK.sentence("Additions wrap around as Java `int` arithmetic does.", InstructionTest::additionsWrap);
        CHECK.sentence("A load is a read access, and a store is a write access, to the line of its address.",
                InstructionTest::accessesByKind);
        CHECK.end();
    }

    private static void aNamesTheRegister() {
        for (int a = 0; a < 4; a++) {
            int[] want = new int[4];
            want[a] = 5;
            results(want, Sections.loadi(a, 5));
            results(want, Sections.addi(a, 5));
            want[a] = 163;
            results(want, Sections.load(a, 63));
            want[a] = 100;
            results(want, Sections.loadx(a, (a + 1) % 4));
            want[a] = 10;
            results(want, Sections.loadi(a, 5), Sections.add(a, a));
            results(want, Sections.loadi(a, 10), Sections.jnz(a, 2), Sections.loadi(a, 9));
            stored(9, Sections.loadi(a, 7), Sections.store(a, 9));
            stored(0, Sections.loadi(a, 7), Sections.storex(a, (a + 1) % 4));
        }
        for (int op = 0; op <= 8; op++) {
            for (int a : Check.NOT_0_TO_3) {
                CHECK.due("append(0, " + op + ", " + a + ", 1)", Pasts.fresh().append(0, op, a, 1), -1);
            }
        }
    }

    private static void loadi() {
        for (int b : new int[] {LEAST, LEAST + 1, -1, 0, 1, 63, 64, MOST - 1, MOST}) {
            allowed(LockElision.OP_LOADI, b, true);
            results(new int[] {0, b, 0, 0}, Sections.loadi(1, 3), Sections.loadi(1, b));
        }
    }

    private static void load() {
        for (int b = 0; b < 64; b++) {
            allowed(LockElision.OP_LOAD, b, true);
            results(new int[] {0, 0, 100 + b, 0}, Sections.load(2, b));
        }
        for (int b : new int[] {LEAST, -64, -1, 64, 65, 128, MOST}) {
            allowed(LockElision.OP_LOAD, b, false);
        }
    }

    private static void store() {
        for (int b = 0; b < 64; b++) {
            allowed(LockElision.OP_STORE, b, true);
            stored(b, Sections.loadi(3, 7), Sections.store(3, b));
        }
        for (int b : new int[] {LEAST, -64, -1, 64, 65, 128, MOST}) {
            allowed(LockElision.OP_STORE, b, false);
        }
    }

    private static void add() {
        for (int a = 0; a < 4; a++) {
            for (int b = 0; b < 4; b++) {
                allowed(LockElision.OP_ADD, b, true);
                int[] want = {1, 20, 300, 4000};
                want[a] += want[b];
                results(want, Sections.loadi(0, 1), Sections.loadi(1, 20), Sections.loadi(2, 300), Sections.loadi(3, 4000),
                        Sections.add(a, b));
            }
        }
        for (int b : Check.NOT_0_TO_3) {
            allowed(LockElision.OP_ADD, b, false);
        }
    }

    private static void addi() {
        for (int b : new int[] {LEAST, LEAST + 1, -1, 0, 1, 63, 64, MOST - 1, MOST}) {
            allowed(LockElision.OP_ADDI, b, true);
            results(new int[] {b, 0, 0, 0}, Sections.addi(0, b));
        }
        results(new int[] {0, 0, 0, 12}, Sections.loadi(3, 15), Sections.addi(3, -3));
    }

    /** What a register holds, and the address it stands for. */
    private static int[][] indices() {
        return new int[][] {{0, 0}, {1, 1}, {62, 62}, {63, 63}, {64, 0}, {65, 1}, {127, 63}, {128, 0}, {-1, 63}, {-2, 62},
            {-63, 1}, {-64, 0}, {-65, 63}, {LEAST, 0}, {LEAST + 1, 1}, {MOST, 63}, {MOST - 1, 62}};
    }

    private static void loadx() {
        for (int[] one : indices()) {
            results(new int[] {one[0], 100 + one[1], 0, 0}, Sections.loadi(0, one[0]), Sections.loadx(1, 0));
            results(new int[] {0, 0, 0, 100 + one[1]}, Sections.loadi(3, one[0]), Sections.loadx(3, 3));
        }
        for (int b = 0; b < 4; b++) {
            allowed(LockElision.OP_LOADX, b, true);
        }
        for (int b : Check.NOT_0_TO_3) {
            allowed(LockElision.OP_LOADX, b, false);
        }
    }

    private static void storex() {
        for (int[] one : indices()) {
            stored(one[1], Sections.loadi(0, one[0]), Sections.loadi(1, 7), Sections.storex(1, 0));
            results(new int[] {0, 0, one[0], one[0]}, Sections.loadi(3, one[0]), Sections.storex(3, 3),
                    Sections.load(2, one[1]));
        }
        for (int b = 0; b < 4; b++) {
            allowed(LockElision.OP_STOREX, b, true);
        }
        for (int b : Check.NOT_0_TO_3) {
            allowed(LockElision.OP_STOREX, b, false);
        }
    }

    private static void xabort() {
        for (int code : new int[] {LEAST, LEAST + 1, -1, 0, 1, 63, 64, 256, MOST - 1, MOST}) {
            allowed(LockElision.OP_XABORT, code, true);
            LockElision x = new LockElision(4, 4, 7);
            Sections.speculate(x, 2, 1, Sections.loadi(0, 1), Sections.xabort(code));
            CHECK.due("OP_XABORT with code " + code, x.step(2), LockElision.STEP_ABORTED);
            CHECK.due("cause", x.lastCause(2), LockElision.CAUSE_EXPLICIT);
            CHECK.due("code", x.abortCode(2), code);
        }
    }

    private static void jnz() {
        for (int b = 1; b <= 16; b++) {
            allowed(LockElision.OP_JNZ, b, true);
            for (int value : new int[] {1, -1, LEAST, MOST}) {
                jumps(value, b, Math.min(1 + b, 5));
            }
            jumps(0, b, 2);
        }
        for (int b : new int[] {LEAST, -16, -1, 0, 17, 18, 32, MOST}) {
            allowed(LockElision.OP_JNZ, b, false);
        }
        results(new int[] {1, 0, 0, 6}, Sections.loadi(0, 1), Sections.jnz(0, 2), Sections.loadi(1, 5), Sections.loadi(3, 6));
        results(new int[] {0, 5, 0, 6}, Sections.jnz(0, 2), Sections.loadi(1, 5), Sections.loadi(3, 6));
        jumpsInAFullProgram();
    }

    /** The jump stands at 1 in a program of five instructions. */
    private static void jumps(int value, int by, int want) {
        int[][] program = {Sections.loadi(2, value), Sections.jnz(2, by), Sections.addi(0, 1), Sections.addi(0, 1),
            Sections.addi(0, 1)};
        LockElision elided = new LockElision(4, 4, 2);
        Sections.speculate(elided, 0, 2, program);
        CHECK.due("pc after a jump by " + by + " with " + value, elided.pc(0), want);
        CHECK.due("the end after the jump", Sections.runOn(elided, 0), LockElision.STEP_COMMITTED);
        CHECK.due("instructions run after the jump", elided.result(0, 0), 5 - want);
        LockElision locked = new LockElision(4, 4, 2);
        Sections.lock(locked, 0, program);
        Sections.steps(locked, 0, 2);
        CHECK.due("pc under the lock after a jump by " + by + " with " + value, locked.pc(0), want + 1);
        CHECK.due("the end after the jump", Sections.runOn(locked, 0), LockElision.STEP_RELEASED);
        CHECK.due("instructions run after the jump", locked.result(0, 0), 5 - want);
    }

    /** From every place of a program of 16 the longest jump ends at its length, and a jump by one at the next place. */
    private static void jumpsInAFullProgram() {
        for (int place = 1; place < 16; place++) {
            for (int by : new int[] {1, 15 - place, 16 - place, 17 - place, 16}) {
                if (by < 1) {
                    continue;
                }
                int[][] program = new int[16][];
                Arrays.fill(program, Sections.loadi(0, 1));
                program[place] = Sections.jnz(0, by);
                LockElision x = new LockElision(4, 4, 2);
                Sections.speculate(x, 3, place + 1, program);
                CHECK.due("pc after a jump by " + by + " from " + place, x.pc(3), Math.min(place + by, 16));
            }
        }
    }

    /** Every op but the jump, up to the last place of a full program. */
    private static void pcAdvancesByOne() {
        int[][] each = {Sections.loadi(0, 9), Sections.load(0, 9), Sections.store(0, 9), Sections.add(0, 1),
            Sections.addi(0, 9), Sections.loadx(0, 1), Sections.storex(0, 1)};
        for (int[] one : each) {
            int[][] elided = new int[16][];
            Arrays.fill(elided, one);
            int[][] locked = new int[15][];
            Arrays.fill(locked, one);
            advances(elided, locked);
        }
        int[][] aborts = new int[15][];
        Arrays.fill(aborts, Sections.xabort(9));
        LockElision x = new LockElision(4, 4, 2);
        Sections.lock(x, 1, aborts);
        onlyByOne(x, 1);
    }

    private static void advances(int[][] elided, int[][] locked) {
        LockElision x = new LockElision(4, 4, 2);
        Sections.speculate(x, 1, 0, elided);
        onlyByOne(x, 0);
        LockElision y = new LockElision(4, 4, 2);
        Sections.lock(y, 1, locked);
        onlyByOne(y, 1);
    }

    private static void onlyByOne(LockElision x, int from) {
        for (int pc = from; pc < 16; pc++) {
            CHECK.due("pc", x.pc(1), pc);
            CHECK.due("step", x.step(1), LockElision.STEP_EXECUTED);
        }
        CHECK.due("pc at the end", x.pc(1), 16);
    }

    /** The abort stands at the first, a middle and the last place of a program. */
    private static void explicitAbortLeavesPc0() {
        for (int place = 0; place < 16; place++) {
            int[][] program = new int[16][];
            Arrays.fill(program, Sections.addi(1, 2));
            program[place] = Sections.xabort(4);
            LockElision x = new LockElision(4, 4, 7);
            Sections.speculate(x, 0, place, program);
            CHECK.due("the abort at " + place, x.step(0), LockElision.STEP_ABORTED);
            CHECK.due("pc after it", x.pc(0), 0);
            CHECK.due("acquire", x.step(0), LockElision.STEP_ACQUIRED);
            CHECK.due("pc under the lock", x.pc(0), 0);
            CHECK.due("release", Sections.runOn(x, 0), LockElision.STEP_RELEASED);
            CHECK.due("every other instruction was run once", x.result(0, 1), 30);
        }
    }

    private static void additionsWrap() {
        results(new int[] {LEAST, 0, 0, 0}, Sections.loadi(0, MOST), Sections.addi(0, 1));
        results(new int[] {MOST, 0, 0, 0}, Sections.loadi(0, LEAST), Sections.addi(0, -1));
        results(new int[] {-2, 0, 0, 0}, Sections.loadi(0, MOST), Sections.addi(0, MOST));
        results(new int[] {0, 0, 0, 0}, Sections.loadi(0, LEAST), Sections.addi(0, LEAST));
        results(new int[] {LEAST, 1, 0, 0}, Sections.loadi(0, MOST), Sections.loadi(1, 1), Sections.add(0, 1));
        results(new int[] {MOST, -1, 0, 0}, Sections.loadi(0, LEAST), Sections.loadi(1, -1), Sections.add(0, 1));
        results(new int[] {0, 0, -2, 0}, Sections.loadi(2, MOST), Sections.add(2, 2));
        results(new int[] {0, 0, 0, 0}, Sections.loadi(3, LEAST), Sections.add(3, 3));
        results(new int[] {-1, MOST, 0, 0}, Sections.loadi(0, LEAST), Sections.loadi(1, MOST), Sections.add(0, 1));
    }

    /** The first and the last word of the first and the last line. */
    private static void accessesByKind() {
        for (int addr : new int[] {0, 3, 4, 59, 60, 63}) {
            access(addr, LockElision.READ_BIT, Sections.loadi(2, addr), Sections.load(0, addr));
            access(addr, LockElision.WRITE_BIT, Sections.loadi(2, addr), Sections.store(0, addr));
            access(addr, LockElision.READ_BIT, Sections.loadi(2, addr - 64), Sections.loadx(0, 2));
            access(addr, LockElision.WRITE_BIT, Sections.loadi(2, addr + 64), Sections.storex(0, 2));
        }
    }

    private static void access(int addr, int bits, int[]... program) {
        LockElision x = new LockElision(4, 4, 2);
        Sections.speculate(x, 0, program.length, program);
        for (int line = 0; line < 16; line++) {
            CHECK.due("lineState(0, " + line + ") after " + addr, x.lineState(0, line), line == addr / 4 ? bits : 0);
        }
    }

    private static void allowed(int op, int b, boolean want) {
        CHECK.due("append(0, " + op + ", 0, " + b + ")", Pasts.fresh().append(0, op, 0, b), want ? 1 : -1);
    }

    /** Runs the program on memory[addr] = 100 + addr, once elided and once under the lock. */
    private static void results(int[] want, int[]... program) {
        LockElision elided = ranElided(program);
        LockElision locked = ranLocked(program);
        for (int r = 0; r < 4; r++) {
            CHECK.due("result " + r + " elided", elided.result(1, r), want[r]);
            CHECK.due("result " + r + " under the lock", locked.result(1, r), want[r]);
        }
    }

    /** The program stores a 7 at this address and changes no other word. */
    private static void stored(int at, int[]... program) {
        LockElision elided = ranElided(program);
        LockElision locked = ranLocked(program);
        for (int addr = 0; addr < 64; addr++) {
            int want = addr == at ? 7 : 100 + addr;
            CHECK.due("peek(" + addr + ") elided", elided.peek(addr), want);
            CHECK.due("peek(" + addr + ") under the lock", locked.peek(addr), want);
        }
    }

    private static LockElision ranElided(int[]... program) {
        LockElision x = hundreds();
        Sections.speculate(x, 1, 0, program);
        CHECK.due("end of the elided run", Sections.runOn(x, 1), LockElision.STEP_COMMITTED);
        return x;
    }

    private static LockElision ranLocked(int[]... program) {
        LockElision x = hundreds();
        Sections.lock(x, 1, program);
        CHECK.due("end of the locked run", Sections.runOn(x, 1), LockElision.STEP_RELEASED);
        return x;
    }

    private static LockElision hundreds() {
        LockElision x = new LockElision(4, 4, 2);
        for (int addr = 0; addr < 64; addr++) {
            x.poke(addr, 100 + addr);
        }
        return x;
    }
}
