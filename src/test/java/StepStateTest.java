/** Promise 5, by state: refusal, idle, begin, acquire, commit, release. */
public final class StepStateTest {
    private static final Check CHECK = new Check();

    public static void main(String[] args) {
        refused();
        idle();
        begin();
        beginKeepsTheAbort();
        blocked();
        acquire();
        acquireAbortsTheSpeculating();
        commit();
        commitWritesAllBuffered();
        release();
        CHECK.end();
    }

    private static void refused() {
        LockElision x = new LockElision(4, 4, 2);
        Sections.speculate(x, 0, 1, Sections.loadi(0, 1), Sections.store(0, 1));
        int[] before = Sections.seen(x);
        for (int core : Check.NOT_0_TO_3) {
            CHECK.due("step(" + core + ")", x.step(core), LockElision.STEP_REFUSED);
        }
        CHECK.same("after refused steps", Sections.seen(x), before);
    }

    private static void idle() {
        LockElision x = new LockElision(4, 4, 2);
        for (int core = 0; core < 4; core++) {
            CHECK.due("step of a new core", x.step(core), LockElision.STEP_IDLE);
            x.append(core, LockElision.OP_LOADI, 0, 1);
            CHECK.due("step of a core that did not enter", x.step(core), LockElision.STEP_IDLE);
        }
        x.enter(0);
        x.step(0);
        x.step(0);
        x.step(0);
        int[] before = Sections.seen(x);
        CHECK.due("step of a finished core", x.step(0), LockElision.STEP_IDLE);
        x.append(0, LockElision.OP_LOADI, 0, 9);
        CHECK.due("step of a finished core with a longer program", x.step(0), LockElision.STEP_IDLE);
        CHECK.same("after idle steps", Sections.seen(x), before);
    }

    private static void begin() {
        for (int core = 0; core < 4; core++) {
            LockElision x = new LockElision(4, 4, 2);
            Sections.start(x, core, Sections.loadi(0, 1));
            int[] want = Sections.seen(x);
            want[Sections.part(core) + Sections.STATE] = LockElision.STATE_SPEC;
            want[Sections.part(core) + Sections.LINE + 16] = LockElision.READ_BIT;
            CHECK.due("the first step of core " + core, x.step(core), LockElision.STEP_BEGAN);
            CHECK.same("a begin", Sections.seen(x), want);
        }
    }

    /** A second begin starts with empty buffer, footprint and registers, and keeps what the abort noted. */
    private static void beginKeepsTheAbort() {
        LockElision x = new LockElision(4, 4, 2);
        Sections.speculate(x, 0, 3, Sections.loadi(1, 5), Sections.store(1, 0), Sections.load(2, 20), Sections.load(3, 1));
        Sections.speculate(x, 1, 2, Sections.loadi(0, 6), Sections.store(0, 20));
        CHECK.due("core 0 was aborted", x.state(0), LockElision.STATE_READY);
        CHECK.due("the second begin", x.step(0), LockElision.STEP_BEGAN);
        CHECK.due("attempts", x.attempts(0), 1);
        CHECK.due("cause", x.lastCause(0), LockElision.CAUSE_CONFLICT);
        CHECK.due("code", x.abortCode(0), 0);
        for (int line = 0; line < 16; line++) {
            CHECK.due("line " + line + " after the second begin", x.lineState(0, line), 0);
        }
        CHECK.due("the lock line after the second begin", x.lineState(0, 16), LockElision.READ_BIT);
        CHECK.due("pc after the second begin", x.pc(0), 0);
        CHECK.due("r1 after the second begin", x.reg(0, 1), 0);
    }

    private static void blocked() {
        LockElision x = new LockElision(4, 4, 2);
        Sections.start(x, 2, Sections.xabort(3));
        x.step(2);
        x.step(2);
        Sections.start(x, 1, Sections.loadi(0, 1));
        Sections.lock(x, 3, Sections.loadi(0, 1));
        int[] before = Sections.seen(x);
        CHECK.due("a READY core under the lock", x.step(1), LockElision.STEP_BLOCKED);
        CHECK.due("a WAITLOCK core under the lock", x.step(2), LockElision.STEP_BLOCKED);
        CHECK.same("after blocked steps", Sections.seen(x), before);
        Sections.steps(x, 3, 1);
        CHECK.due("still blocked at the end of the program", x.step(1), LockElision.STEP_BLOCKED);
        CHECK.due("release", x.step(3), LockElision.STEP_RELEASED);
        CHECK.due("a READY core after the release", x.step(1), LockElision.STEP_BEGAN);
        CHECK.due("a WAITLOCK core after the release", x.step(2), LockElision.STEP_ACQUIRED);
        CHECK.due("the acquire aborts the READY core that began", x.lastCause(1), LockElision.CAUSE_LOCK);
    }

    private static void acquire() {
        for (int core = 0; core < 4; core++) {
            LockElision x = new LockElision(4, 4, 2);
            Sections.start(x, core, Sections.loadi(2, 9), Sections.store(2, 3), Sections.xabort(-5));
            x.step(core);
            Sections.steps(x, core, 2);
            x.step(core);
            int[] want = Sections.seen(x);
            want[0] = core;
            want[Sections.part(core) + Sections.STATE] = LockElision.STATE_LOCKED;
            CHECK.due("acquire of core " + core, x.step(core), LockElision.STEP_ACQUIRED);
            CHECK.same("an acquire", Sections.seen(x), want);
            CHECK.due("pc", x.pc(core), 0);
            CHECK.due("r2", x.reg(core, 2), 0);
            CHECK.due("attempts", x.attempts(core), 1);
            CHECK.due("code", x.abortCode(core), -5);
        }
    }

    /** Cores in SPEC fall, whatever lines they hold; one in READY, one IDLE stay as they are. */
    private static void acquireAbortsTheSpeculating() {
        for (int retries = 0; retries < 2; retries++) {
            for (int owner = 0; owner < 4; owner++) {
                LockElision x = new LockElision(4, 4, retries);
                int spec = (owner + 1) % 4;
                int begun = (owner + 2) % 4;
                int ready = (owner + 3) % 4;
                Sections.start(x, owner, Sections.xabort(1));
                x.step(owner);
                x.step(owner);
                Sections.speculate(x, spec, 2, Sections.loadi(0, 5), Sections.store(0, 40), Sections.load(0, 8));
                Sections.speculate(x, begun, 0, Sections.loadi(0, 5));
                Sections.start(x, ready, Sections.loadi(0, 5));
                CHECK.due("acquire", x.step(owner), LockElision.STEP_ACQUIRED);
                for (int core : new int[] {spec, begun}) {
                    int falls = retries == 0 ? LockElision.STATE_WAITLOCK : LockElision.STATE_READY;
                    CHECK.due("state of an aborted core", x.state(core), falls);
                    CHECK.due("its cause", x.lastCause(core), LockElision.CAUSE_LOCK);
                    CHECK.due("its code", x.abortCode(core), 0);
                    CHECK.due("its attempts", x.attempts(core), 1);
                    CHECK.due("its aborts", x.count(core, LockElision.COUNT_ABORTS), 1);
                    CHECK.due("its pc", x.pc(core), 0);
                    CHECK.due("its r0", x.reg(core, 0), 0);
                    CHECK.due("its lock line", x.lineState(core, 16), 0);
                    CHECK.due("its line 10", x.lineState(core, 10), 0);
                }
                CHECK.due("the READY core", x.state(ready), LockElision.STATE_READY);
                CHECK.due("the READY core's attempts", x.attempts(ready), 0);
                CHECK.due("the buffered store is gone", x.peek(40), 0);
                CHECK.due("the owner's aborts", x.count(owner, LockElision.COUNT_ABORTS), 1);
            }
        }
    }

    private static void commit() {
        LockElision x = new LockElision(4, 4, 2);
        x.poke(12, 30);
        Sections.speculate(x, 3, 4, Sections.loadi(1, -8), Sections.load(0, 12), Sections.add(0, 1), Sections.store(0, 13));
        Sections.speculate(x, 0, 1, Sections.load(0, 60));
        int[] want = Sections.seen(x);
        want[Sections.MEMORY + 13] = 22;
        int at = Sections.part(3);
        want[at + Sections.STATE] = LockElision.STATE_IDLE;
        want[at + Sections.RESULT] = 22;
        want[at + Sections.RESULT + 1] = -8;
        want[at + Sections.COUNT + LockElision.COUNT_ELIDED] = 1;
        want[at + Sections.LINE + 3] = 0;
        want[at + Sections.LINE + 16] = 0;
        CHECK.due("commit", x.step(3), LockElision.STEP_COMMITTED);
        CHECK.same("a commit", Sections.seen(x), want);
        CHECK.due("pc is kept", x.pc(3), 4);
        CHECK.due("r0 is kept", x.reg(3, 0), 22);
    }

    private static void commitWritesAllBuffered() {
        LockElision x = new LockElision(4, 4, 2);
        for (int addr = 0; addr < 64; addr++) {
            x.poke(addr, 500 + addr);
        }
        Sections.speculate(x, 1, 9, Sections.store(0, 0), Sections.loadi(0, 2), Sections.store(0, 63), Sections.store(0, 17),
                Sections.loadi(0, 3), Sections.store(0, 17), Sections.store(0, 30), Sections.store(0, 31),
                Sections.store(0, 62));
        int[] want = Sections.seen(x);
        CHECK.due("memory before the commit", x.peek(17), 517);
        CHECK.due("commit", x.step(1), LockElision.STEP_COMMITTED);
        int[][] written = {{0, 0}, {63, 2}, {17, 3}, {30, 3}, {31, 3}, {62, 3}};
        for (int[] one : written) {
            want[Sections.MEMORY + one[0]] = one[1];
        }
        for (int addr = 0; addr < 64; addr++) {
            CHECK.due("peek(" + addr + ") after the commit", x.peek(addr), want[Sections.MEMORY + addr]);
        }
        // The buffer is empty again: a section without stores writes nothing over these pokes.
        x.poke(17, 1);
        x.poke(63, 1);
        Sections.speculate(x, 1, 1, Sections.load(0, 17));
        CHECK.due("a load after the buffer was emptied", x.reg(1, 0), 1);
        x.step(1);
        CHECK.due("peek(17) after the second commit", x.peek(17), 1);
        CHECK.due("peek(63) after the second commit", x.peek(63), 1);
        CHECK.due("commits", x.count(1, LockElision.COUNT_ELIDED), 2);
    }

    private static void release() {
        LockElision x = new LockElision(4, 4, 2);
        Sections.lock(x, 1, Sections.loadi(2, 4), Sections.store(2, 50));
        Sections.steps(x, 1, 2);
        Sections.start(x, 2, Sections.loadi(0, 1));
        int[] want = Sections.seen(x);
        want[0] = -1;
        int at = Sections.part(1);
        want[at + Sections.STATE] = LockElision.STATE_IDLE;
        want[at + Sections.RESULT + 2] = 4;
        want[at + Sections.COUNT + LockElision.COUNT_LOCKED] = 1;
        CHECK.due("release", x.step(1), LockElision.STEP_RELEASED);
        CHECK.same("a release", Sections.seen(x), want);
        CHECK.due("pc is kept", x.pc(1), 3);
        CHECK.due("attempts are kept", x.attempts(1), 1);
        CHECK.due("cause is kept", x.lastCause(1), LockElision.CAUSE_EXPLICIT);
        CHECK.due("memory", x.peek(50), 4);
    }
}
