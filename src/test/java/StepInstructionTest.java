/** Promise 5, by instruction: each runs elided and under the lock and gives the same registers and memory. */
public final class StepInstructionTest {
    private static final Check CHECK = new Check();
    private static final int LEAST = Integer.MIN_VALUE;
    private static final int MOST = Integer.MAX_VALUE;

    public static void main(String[] args) {
        registers();
        indexedAddresses();
        jumps();
        explicitAbortWhileSpeculating();
        explicitAbortUnderTheLock();
        storesUnderTheLockAreSeenAtOnce();
        CHECK.end();
    }

    private static void registers() {
        results(new int[] {LEAST, MOST, 0, -1}, Sections.loadi(0, LEAST), Sections.loadi(1, MOST), Sections.loadi(3, -1));
        results(new int[] {LEAST, 0, 0, 0}, Sections.loadi(0, MOST), Sections.addi(0, 1));
        results(new int[] {0, MOST, 0, 0}, Sections.addi(1, LEAST), Sections.addi(1, -1));
        results(new int[] {-2, MOST, 0, 0}, Sections.loadi(0, MOST), Sections.loadi(1, MOST), Sections.add(0, 1));
        results(new int[] {0, 0, 24, 0}, Sections.loadi(2, 12), Sections.add(2, 2));
        results(new int[] {3, 0, 0, 8}, Sections.loadi(0, 3), Sections.loadi(3, 5), Sections.add(3, 0));
        results(new int[] {9, 9, 0, 0}, Sections.loadi(0, 9), Sections.store(0, 63), Sections.load(1, 63));
        results(new int[] {109, 100, 0, 0}, Sections.load(0, 9), Sections.load(1, 0));
    }

    private static void indexedAddresses() {
        int[][] cases = {{0, 0}, {5, 5}, {63, 63}, {64, 0}, {65, 1}, {-1, 63}, {-64, 0}, {LEAST, 0}, {MOST, 63}, {1000, 40}};
        for (int[] one : cases) {
            results(new int[] {one[0], 100 + one[1], 0, 0}, Sections.loadi(0, one[0]), Sections.loadx(1, 0));
            results(new int[] {0, 0, 0, 100 + one[1]}, Sections.loadi(3, one[0]), Sections.loadx(3, 3));
            results(new int[] {one[0], 7, 7, 0}, Sections.loadi(0, one[0]), Sections.loadi(1, 7), Sections.storex(1, 0),
                    Sections.load(2, one[1]));
            results(new int[] {0, one[0], one[0], 0}, Sections.loadi(1, one[0]), Sections.storex(1, 1),
                    Sections.load(2, one[1]));
        }
    }

    private static void jumps() {
        results(new int[] {1, 0, 0, 6}, Sections.loadi(0, 1), Sections.jnz(0, 2), Sections.loadi(1, 5), Sections.loadi(3, 6));
        results(new int[] {-1, 5, 0, 6}, Sections.loadi(0, -1), Sections.jnz(0, 1), Sections.loadi(1, 5), Sections.loadi(3, 6));
        results(new int[] {0, 5, 0, 6}, Sections.jnz(0, 2), Sections.loadi(1, 5), Sections.loadi(3, 6));
        results(new int[] {1, 0, 0, 0}, Sections.loadi(0, 1), Sections.jnz(0, 16), Sections.loadi(1, 5));
        results(new int[] {1, 0, 0, 0}, Sections.loadi(0, 1), Sections.jnz(0, 2), Sections.loadi(1, 5));
        jumpStopsAtTheLength(false);
        jumpStopsAtTheLength(true);
    }

    private static void jumpStopsAtTheLength(boolean locked) {
        for (int by = 1; by <= 16; by++) {
            LockElision x = new LockElision(4, 4, 2);
            int[][] program = {Sections.loadi(2, LEAST), Sections.jnz(2, by), Sections.loadi(0, 1), Sections.loadi(1, 1)};
            int first = locked ? 1 : 0;
            if (locked) {
                Sections.lock(x, 0, program);
                Sections.steps(x, 0, 2);
            } else {
                Sections.speculate(x, 0, 2, program);
            }
            int length = first + 4;
            CHECK.due("pc after a jump by " + by, x.pc(0), Math.min(first + 1 + by, length));
        }
    }

    private static void explicitAbortWhileSpeculating() {
        for (int code : new int[] {0, 1, -1, 255, LEAST, MOST}) {
            LockElision x = new LockElision(4, 4, 7);
            x.poke(8, 80);
            Sections.speculate(x, 2, 3, Sections.load(1, 8), Sections.addi(1, 1), Sections.store(1, 8), Sections.xabort(code));
            int[] want = Sections.seen(x);
            int at = Sections.part(2);
            want[at + Sections.STATE] = LockElision.STATE_WAITLOCK;
            want[at + Sections.PC] = 0;
            want[at + Sections.ATTEMPTS] = 1;
            want[at + Sections.CAUSE] = LockElision.CAUSE_EXPLICIT;
            want[at + Sections.CODE] = code;
            want[at + Sections.REG + 1] = 0;
            want[at + Sections.COUNT + LockElision.COUNT_ABORTS] = 1;
            want[at + Sections.LINE + 2] = 0;
            want[at + Sections.LINE + 16] = 0;
            CHECK.due("OP_XABORT with code " + code, x.step(2), LockElision.STEP_ABORTED);
            CHECK.same("an explicit abort", Sections.seen(x), want);
        }
    }

    private static void explicitAbortUnderTheLock() {
        LockElision x = new LockElision(4, 4, 2);
        Sections.lock(x, 0, Sections.loadi(0, 4), Sections.xabort(9));
        Sections.steps(x, 0, 1);
        int[] want = Sections.seen(x);
        want[Sections.part(0) + Sections.PC] = 3;
        CHECK.due("OP_XABORT under the lock", x.step(0), LockElision.STEP_EXECUTED);
        CHECK.same("OP_XABORT under the lock", Sections.seen(x), want);
    }

    private static void storesUnderTheLockAreSeenAtOnce() {
        LockElision x = new LockElision(1, 1, 2);
        Sections.lock(x, 3, Sections.loadi(0, 1), Sections.store(0, 1), Sections.store(0, 20), Sections.load(1, 20));
        Sections.steps(x, 3, 1);
        CHECK.due("peek(1) before the store", x.peek(1), 0);
        Sections.steps(x, 3, 1);
        CHECK.due("peek(1) after the store", x.peek(1), 1);
        CHECK.due("peek(20) before the store", x.peek(20), 0);
        Sections.steps(x, 3, 2);
        CHECK.due("peek(20) after the store", x.peek(20), 1);
        for (int line = 0; line <= 16; line++) {
            CHECK.due("no footprint under the lock on line " + line, x.lineState(3, line), 0);
        }
    }

    /** Runs the program on memory[addr] = 100 + addr, once elided and once under the lock. */
    private static void results(int[] want, int[]... program) {
        LockElision elided = hundreds();
        Sections.start(elided, 1, program);
        CHECK.due("begin", elided.step(1), LockElision.STEP_BEGAN);
        CHECK.due("end of the elided run", runOn(elided, 1), LockElision.STEP_COMMITTED);
        LockElision locked = hundreds();
        Sections.lock(locked, 1, program);
        CHECK.due("end of the locked run", runOn(locked, 1), LockElision.STEP_RELEASED);
        for (int r = 0; r < 4; r++) {
            CHECK.due("result " + r + " elided", elided.result(1, r), want[r]);
            CHECK.due("result " + r + " under the lock", locked.result(1, r), want[r]);
        }
        for (int addr = 0; addr < 64; addr++) {
            CHECK.due("peek(" + addr + ") both ways", elided.peek(addr), locked.peek(addr));
        }
    }

    private static LockElision hundreds() {
        LockElision x = new LockElision(4, 4, 2);
        for (int addr = 0; addr < 64; addr++) {
            x.poke(addr, 100 + addr);
        }
        return x;
    }

    private static int runOn(LockElision x, int core) {
        int answer = LockElision.STEP_EXECUTED;
        for (int i = 0; i < 20 && answer == LockElision.STEP_EXECUTED; i++) {
            answer = x.step(core);
        }
        return answer;
    }
}
