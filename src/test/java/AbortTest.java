import java.util.ArrayList;
import java.util.List;

/** "Abort": each thing that an abort does or leaves alone, for every cause and every core. */
public final class AbortTest {
    private static final Check CHECK = new Check();
    private static final int[] CAUSES = {LockElision.CAUSE_CONFLICT, LockElision.CAUSE_CAPACITY, LockElision.CAUSE_EXPLICIT,
        LockElision.CAUSE_LOCK};
    private static final int CODE = 77;

    public static void main(String[] args) {
        CHECK.sentence("A speculating section aborts in four cases:", AbortTest::fourCases);
        CHECK.sentence("its lines would overflow the ways of a cache set (capacity);", AbortTest::overflow);
        CHECK.sentence("1. The footprint is cleared (all bits of lines 0..16).", AbortTest::footprint);
        CHECK.sentence("2. The write buffer is emptied.", AbortTest::buffer);
        CHECK.sentence("3. r0..r3 = 0 and pc = 0.", AbortTest::registersAndPc);
        CHECK.sentence("4. Attempts + 1.", AbortTest::attempts);
        CHECK.sentence("5. The aborts counter + 1.", AbortTest::abortsCounter);
        CHECK.sentence("6. Last cause = c.", AbortTest::lastCause);
        CHECK.sentence("7. Abort code = k if c is `CAUSE_EXPLICIT`, else 0.", AbortTest::code);
        CHECK.sentence("Then, if c is `CAUSE_CAPACITY` or `CAUSE_EXPLICIT`, or attempts > retries, the state becomes WAITLOCK.",
                AbortTest::fallsBack);
        CHECK.sentence("Otherwise it becomes READY.", AbortTest::retries);
        CHECK.sentence("Memory, results, the program and the other counters of X are not changed by an abort.",
                AbortTest::keepsTheRest);
        CHECK.sentence("An aborted section rolls back and retries speculatively up to a set number of times.",
                AbortTest::rollsBackAndRetries);
        CHECK.sentence("It then falls back to taking the lock and running directly on memory; after a capacity or explicit"
                + " abort it falls back at once.", AbortTest::fallsBackToTheLock);
        CHECK.end();
    }

    /**
     * A core that was aborted. Before it, the core had completed a section each way and stood at pc 8 with all registers
     * set, words 0 and 63 buffered, and lines 0, 15 and 16 in its footprint, line 15 with both bits.
     */
    private static final class Aborted {
        final LockElision x;
        final int core;
        final int other;
        final int cause;
        final int[] before;

        Aborted(int cause, int core, int retries) {
            this.cause = cause;
            this.core = core;
            this.other = (core + 3) % 4;
            x = new LockElision(2, 4, retries);
            x.poke(0, 50);
            x.poke(63, 60);
            completeBothWays();
            if (cause == LockElision.CAUSE_LOCK) {
                Sections.start(x, other, Sections.xabort(0));
                x.step(other);
                x.step(other);
            }
            Sections.speculate(x, core, 8, Sections.loadi(0, 1), Sections.loadi(1, 2), Sections.loadi(2, 3),
                    Sections.loadi(3, 4), Sections.store(0, 0), Sections.store(1, 63), Sections.load(2, 60),
                    Sections.addi(2, 9), lastInstruction());
            before = Sections.seen(x);
            abort();
        }

        private void completeBothWays() {
            Sections.lock(x, core, Sections.loadi(0, 9));
            Sections.must(Sections.runOn(x, core) == LockElision.STEP_RELEASED);
            Sections.speculate(x, core, 4, Sections.loadi(0, 31), Sections.loadi(1, 32), Sections.loadi(2, 33),
                    Sections.loadi(3, 34));
            Sections.must(x.step(core) == LockElision.STEP_COMMITTED);
        }

        /** Line 4 is the third of set 0, which has two ways. */
        private int[] lastInstruction() {
            if (cause == LockElision.CAUSE_EXPLICIT) {
                return Sections.xabort(CODE);
            }
            return cause == LockElision.CAUSE_CAPACITY ? Sections.load(3, 16) : Sections.addi(3, 1);
        }

        private void abort() {
            if (cause == LockElision.CAUSE_CONFLICT) {
                Sections.speculate(x, other, 1, Sections.load(0, 1));
            } else if (cause == LockElision.CAUSE_LOCK) {
                Sections.must(x.step(other) == LockElision.STEP_ACQUIRED);
            } else {
                CHECK.due("step", x.step(core), LockElision.STEP_ABORTED);
            }
            CHECK.due("core " + core + " is no more in SPEC", x.state(core) != LockElision.STATE_SPEC, true);
        }

        int before(int what) {
            return before[Sections.part(core) + what];
        }
    }

    private static List<Aborted> everyAbort() {
        List<Aborted> all = new ArrayList<>();
        for (int cause : CAUSES) {
            for (int core = 0; core < 4; core++) {
                for (int retries : new int[] {0, 1, 7}) {
                    all.add(new Aborted(cause, core, retries));
                }
            }
        }
        return all;
    }

    /** The four cases abort, and all that another core can do beside them does not. */
    private static void fourCases() {
        for (Aborted one : everyAbort()) {
            CHECK.due("aborts of core " + one.core, one.x.attempts(one.core), 1);
        }
        LockElision x = new LockElision(2, 4, 0);
        Sections.speculate(x, 0, 2, Sections.load(0, 0), Sections.store(0, 60));
        Sections.speculate(x, 1, 1, Sections.load(0, 1), Sections.load(0, 16));
        CHECK.due("another's overflow", x.step(1), LockElision.STEP_ABORTED);
        Sections.speculate(x, 2, 1, Sections.load(0, 2), Sections.xabort(1));
        CHECK.due("another's explicit abort", x.step(2), LockElision.STEP_ABORTED);
        Sections.speculate(x, 3, 2, Sections.load(0, 3), Sections.store(0, 59));
        CHECK.due("another's commit", x.step(3), LockElision.STEP_COMMITTED);
        Sections.start(x, 3, Sections.store(0, 0));
        CHECK.due("state after all of that", x.state(0), LockElision.STATE_SPEC);
        CHECK.due("attempts after all of that", x.attempts(0), 0);
        CHECK.due("commit", x.step(0), LockElision.STEP_COMMITTED);
    }

    /** The line that would be one too many for its set is the one that aborts, not the last that fits. */
    private static void overflow() {
        for (int ways = 1; ways <= 4; ways++) {
            LockElision x = new LockElision(ways, 4, 7);
            Sections.start(x, 0, Sections.load(0, 12), Sections.load(0, 28), Sections.load(0, 44), Sections.load(0, 60),
                    Sections.load(0, 0), Sections.load(0, 16), Sections.load(0, 32), Sections.load(0, 48));
            x.step(0);
            int fit = ways < 4 ? ways : 4 + ways - 1;
            for (int i = 0; i < fit; i++) {
                CHECK.due("line number " + i + " with ways " + ways, x.step(0), LockElision.STEP_EXECUTED);
            }
            CHECK.due("a line more with ways " + ways, x.step(0), LockElision.STEP_ABORTED);
            CHECK.due("its cause", x.lastCause(0), LockElision.CAUSE_CAPACITY);
        }
    }

    private static void footprint() {
        for (Aborted one : everyAbort()) {
            CHECK.due("line 0 before", one.before(Sections.LINE), LockElision.WRITE_BIT);
            CHECK.due("line 15 before", one.before(Sections.LINE + 15), 3);
            CHECK.due("line 16 before", one.before(Sections.LINE + 16), LockElision.READ_BIT);
            for (int line = 0; line <= 16; line++) {
                CHECK.due("lineState(" + one.core + ", " + line + ") after cause " + one.cause,
                        one.x.lineState(one.core, line), 0);
            }
        }
    }

    /**
     * The first try stores 9 and is aborted through a flag; the second try sees the flag, leaves the store out and loads.
     * The flag is stored by an elided section or under the lock, so that the first try falls by a conflict or by the lock.
     */
    private static void buffer() {
        for (int core = 0; core < 4; core++) {
            for (int addr = 0; addr < 64; addr++) {
                for (boolean byLock : new boolean[] {false, true}) {
                    secondTry(core, addr, byLock);
                }
            }
        }
    }

    private static void secondTry(int core, int addr, boolean byLock) {
        int flag = (addr + 32) % 64;
        int other = (core + 1) % 4;
        LockElision x = new LockElision(4, 4, 2);
        x.poke(addr, 5);
        Sections.speculate(x, core, 4, Sections.load(1, flag), Sections.jnz(1, 3), Sections.loadi(0, 9),
                Sections.store(0, addr), Sections.load(2, addr));
        if (byLock) {
            Sections.lock(x, other, Sections.loadi(0, 1), Sections.store(0, flag));
            Sections.must(Sections.runOn(x, other) == LockElision.STEP_RELEASED);
        } else {
            Sections.speculate(x, other, 2, Sections.loadi(0, 1), Sections.store(0, flag));
            Sections.must(x.step(other) == LockElision.STEP_COMMITTED);
        }
        CHECK.due("the second try of core " + core, x.step(core), LockElision.STEP_BEGAN);
        Sections.steps(x, core, 3);
        CHECK.due("a load of " + addr + " in the second try", x.reg(core, 2), 5);
        CHECK.due("its commit", x.step(core), LockElision.STEP_COMMITTED);
        CHECK.due("peek(" + addr + ")", x.peek(addr), 5);
    }

    private static void registersAndPc() {
        for (Aborted one : everyAbort()) {
            CHECK.due("pc before", one.before(Sections.PC), 8);
            CHECK.due("pc after cause " + one.cause, one.x.pc(one.core), 0);
            for (int r = 0; r < 4; r++) {
                CHECK.due("r" + r + " before", one.before(Sections.REG + r) != 0, true);
                CHECK.due("r" + r + " after cause " + one.cause, one.x.reg(one.core, r), 0);
            }
        }
    }

    private static void attempts() {
        for (Aborted one : everyAbort()) {
            CHECK.due("attempts after cause " + one.cause, one.x.attempts(one.core), 1);
        }
        LockElision x = new LockElision(4, 4, 7);
        Sections.start(x, 0, Sections.load(0, 0));
        for (int n = 1; n <= 8; n++) {
            conflict(x);
            CHECK.due("attempts after abort " + n, x.attempts(0), n);
        }
    }

    /** Core 0 begins, loads word 0 and is aborted by core 1. */
    private static void conflict(LockElision x) {
        Sections.must(x.step(0) == LockElision.STEP_BEGAN);
        Sections.steps(x, 0, 1);
        Sections.speculate(x, 1, 1, Sections.store(0, 0));
        Sections.must(x.step(1) == LockElision.STEP_COMMITTED);
    }

    private static void abortsCounter() {
        for (Aborted one : everyAbort()) {
            CHECK.due("aborts before", one.before(Sections.COUNT + LockElision.COUNT_ABORTS), 1);
            CHECK.due("aborts after cause " + one.cause, one.x.count(one.core, LockElision.COUNT_ABORTS), 2);
        }
    }

    private static void lastCause() {
        for (Aborted one : everyAbort()) {
            CHECK.due("cause before", one.before(Sections.CAUSE), LockElision.CAUSE_NONE);
            CHECK.due("cause after", one.x.lastCause(one.core), one.cause);
        }
        LockElision x = new LockElision(4, 4, 7);
        Sections.start(x, 0, Sections.load(0, 0));
        conflict(x);
        Sections.must(x.step(0) == LockElision.STEP_BEGAN);
        Sections.lock(x, 2);
        CHECK.due("the later of two causes", x.lastCause(0), LockElision.CAUSE_LOCK);
    }

    private static void code() {
        for (Aborted one : everyAbort()) {
            CHECK.due("code after cause " + one.cause, one.x.abortCode(one.core),
                    one.cause == LockElision.CAUSE_EXPLICIT ? CODE : 0);
        }
        for (int code : new int[] {Integer.MIN_VALUE, -1, 0, Integer.MAX_VALUE}) {
            LockElision x = new LockElision(4, 4, 7);
            Sections.speculate(x, 3, 0, Sections.xabort(code));
            x.step(3);
            CHECK.due("code " + code, x.abortCode(3), code);
        }
    }

    private static void fallsBack() {
        for (Aborted one : everyAbort()) {
            if (one.cause == LockElision.CAUSE_CAPACITY || one.cause == LockElision.CAUSE_EXPLICIT) {
                CHECK.due("state after cause " + one.cause, one.x.state(one.core), LockElision.STATE_WAITLOCK);
            }
        }
        for (int cause : new int[] {LockElision.CAUSE_CONFLICT, LockElision.CAUSE_LOCK}) {
            Aborted one = new Aborted(cause, 2, 0);
            CHECK.due("state after cause " + cause + " with no retries", one.x.state(2), LockElision.STATE_WAITLOCK);
        }
        for (int retries = 0; retries <= 7; retries++) {
            LockElision x = new LockElision(4, 4, retries);
            Sections.start(x, 0, Sections.load(0, 0));
            for (int n = 1; n <= retries + 1; n++) {
                conflict(x);
            }
            CHECK.due("state after abort " + (retries + 1) + " with retries " + retries, x.state(0),
                    LockElision.STATE_WAITLOCK);
        }
    }

    /** The attempts may reach the retries: only the abort after that leads to the lock. */
    private static void retries() {
        for (int cause : new int[] {LockElision.CAUSE_CONFLICT, LockElision.CAUSE_LOCK}) {
            Aborted one = new Aborted(cause, 2, 1);
            CHECK.due("state after cause " + cause + " with one retry", one.x.state(2), LockElision.STATE_READY);
        }
        for (int retries = 1; retries <= 7; retries++) {
            LockElision x = new LockElision(4, 4, retries);
            Sections.start(x, 0, Sections.load(0, 0));
            for (int n = 1; n <= retries; n++) {
                conflict(x);
                CHECK.due("state after abort " + n + " with retries " + retries, x.state(0), LockElision.STATE_READY);
            }
        }
    }

    private static void keepsTheRest() {
        for (Aborted one : everyAbort()) {
            LockElision x = one.x;
            for (int addr = 0; addr < 64; addr++) {
                CHECK.due("peek(" + addr + ") after the abort", x.peek(addr), one.before[Sections.MEMORY + addr]);
            }
            for (int r = 0; r < 4; r++) {
                CHECK.due("result " + r + " after the abort", x.result(one.core, r), 31 + r);
            }
            CHECK.due("commits after the abort", x.count(one.core, LockElision.COUNT_ELIDED), 1);
            CHECK.due("releases after the abort", x.count(one.core, LockElision.COUNT_LOCKED), 1);
            for (int i = 0; i < 200; i++) {
                x.step(i % 4);
            }
            CHECK.due("the program was run to its end", x.pc(one.core), 9);
            CHECK.due("its r1", x.result(one.core, 1), 2);
            CHECK.due("its store", x.peek(63), 2);
            CHECK.due("its length", x.append(one.core, LockElision.OP_LOADI, 0, 0), 10);
        }
    }

    private static void rollsBackAndRetries() {
        for (int retries = 0; retries <= 7; retries++) {
            LockElision x = new LockElision(4, 4, retries);
            Sections.start(x, 0, Sections.load(0, 0), Sections.addi(0, 1), Sections.store(0, 4));
            int begins = 0;
            while (begins < 20 && x.step(0) == LockElision.STEP_BEGAN) {
                begins++;
                Sections.steps(x, 0, 3);
                Sections.speculate(x, 1, 1, Sections.load(0, 5));
                CHECK.due("the store was rolled back", x.peek(4), 0);
                Sections.must(x.step(1) == LockElision.STEP_COMMITTED);
                CHECK.due("the other section saw nothing of it", x.result(1, 0), 0);
            }
            CHECK.due("tries with retries " + retries, begins, retries + 1);
        }
    }

    private static void fallsBackToTheLock() {
        for (Aborted one : everyAbort()) {
            if (one.x.state(one.core) != LockElision.STATE_WAITLOCK || one.x.lockOwner() != -1) {
                continue;
            }
            CHECK.due("acquire after cause " + one.cause, one.x.step(one.core), LockElision.STEP_ACQUIRED);
            Sections.steps(one.x, one.core, 5);
            CHECK.due("its store is seen at once", one.x.peek(0), 1);
            CHECK.due("release", Sections.runOn(one.x, one.core), LockElision.STEP_RELEASED);
        }
    }
}
