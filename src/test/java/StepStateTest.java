import java.util.function.Supplier;

/** Promise 5, by state: the refusal, IDLE, READY, WAITLOCK, and the instructions in LOCKED. */
public final class StepStateTest {
    private static final Check CHECK = new Check();
    private static final String BLOCKED = "If the lock is held, nothing changes; answers `STEP_BLOCKED`.";

    public static void main(String[] args) {
        CHECK.sentence("It answers `STEP_REFUSED` and changes nothing if X is not in 0..3.", StepStateTest::refused);
        CHECK.sentence("**IDLE.** Nothing changes; answers `STEP_IDLE`.", StepStateTest::idle);
        CHECK.sentence("READY: " + BLOCKED, StepStateTest::readyUnderTheLock);
        CHECK.sentence("Otherwise the state becomes SPEC, pc = 0, r0..r3 = 0, and the buffer is emptied.", StepStateTest::begin);
        CHECK.sentence("The footprint becomes the read bit of `LOCK_LINE` only, with all other bits cleared.",
                StepStateTest::footprintOfABegin);
        CHECK.sentence("Answers `STEP_BEGAN`. Attempts, last cause and abort code are unchanged.",
                StepStateTest::beginKeepsTheAbort);
        CHECK.sentence("WAITLOCK: " + BLOCKED, StepStateTest::waitingUnderTheLock);
        CHECK.sentence("Otherwise lock owner = X.", StepStateTest::acquire);
        CHECK.sentence("Then every other core in SPEC, in ascending core order, aborts with `CAUSE_LOCK`.",
                StepStateTest::acquireAbortsTheSpeculating);
        CHECK.sentence("Then X becomes LOCKED with pc 0 and r0..r3 = 0. Answers `STEP_ACQUIRED`.", StepStateTest::locked);
        CHECK.sentence("The instruction runs on memory directly: loads read memory and stores write memory, with no"
                + " footprint.", StepStateTest::lockedRunsOnMemory);
        CHECK.sentence("`OP_XABORT` only advances pc. Answers `STEP_EXECUTED`.", StepStateTest::explicitAbortUnderTheLock);
        CHECK.end();
    }

    private static void refused() {
        for (Supplier<LockElision> past : Pasts.all()) {
            for (int core : Check.NOT_0_TO_3) {
                keepsAll(past, core, LockElision.STEP_REFUSED);
            }
        }
    }

    /** A core that never had a program, one that has not entered, and one that is done, also with a longer program. */
    private static void idle() {
        for (int core = 0; core < 4; core++) {
            keepsAll(Pasts::fresh, core, LockElision.STEP_IDLE);
            int program = core;
            keepsAll(() -> appended(Pasts.fresh(), program), core, LockElision.STEP_IDLE);
        }
        keepsAll(Pasts::speculating, 0, LockElision.STEP_IDLE);
        keepsAll(Pasts::locked, 1, LockElision.STEP_IDLE);
        keepsAll(() -> appended(Pasts.speculating(), 0), 0, LockElision.STEP_IDLE);
        keepsAll(() -> appended(Pasts.locked(), 1), 1, LockElision.STEP_IDLE);
        for (int length = 0; length <= 16; length++) {
            LockElision x = Pasts.fresh();
            for (int i = 0; i < length; i++) {
                appended(x, 2);
            }
            CHECK.due("a step with a program of " + length, x.step(2), LockElision.STEP_IDLE);
            CHECK.due("append after it", x.append(2, LockElision.OP_LOADI, 0, 9), length < 16 ? length + 1 : -1);
        }
    }

    private static LockElision appended(LockElision x, int core) {
        Sections.must(x.append(core, LockElision.OP_LOADI, 0, 9) > 0);
        return x;
    }

    private static void readyUnderTheLock() {
        keepsAll(Pasts::locked, 3, LockElision.STEP_BLOCKED);
        keepsAll(StepStateTest::lockedAtTheEnd, 3, LockElision.STEP_BLOCKED);
        LockElision x = lockedAtTheEnd();
        CHECK.due("release", x.step(0), LockElision.STEP_RELEASED);
        CHECK.due("a READY core after the release", x.step(3), LockElision.STEP_BEGAN);
    }

    private static void waitingUnderTheLock() {
        keepsAll(Pasts::locked, 2, LockElision.STEP_BLOCKED);
        keepsAll(StepStateTest::lockedAtTheEnd, 2, LockElision.STEP_BLOCKED);
        LockElision x = lockedAtTheEnd();
        CHECK.due("release", x.step(0), LockElision.STEP_RELEASED);
        CHECK.due("a WAITLOCK core after the release", x.step(2), LockElision.STEP_ACQUIRED);
    }

    /** The owner has run its last instruction and still holds the lock. */
    private static LockElision lockedAtTheEnd() {
        LockElision x = Pasts.locked();
        Sections.steps(x, 0, 2);
        return x;
    }

    private static void keepsAll(Supplier<LockElision> past, int core, int want) {
        Twins.changesNothing(CHECK, "step(" + core + ")", past, x -> x.step(core), want);
    }

    /** A first begin changes the state and the lock line alone; a second one starts anew what the first had run. */
    private static void begin() {
        for (int core = 0; core < 4; core++) {
            LockElision x = new LockElision(4, 4, 2);
            x.poke(0, 4);
            Sections.start(x, core, Sections.loadi(0, 1), Sections.store(0, 0));
            int[] want = Sections.seen(x);
            want[Sections.part(core) + Sections.STATE] = LockElision.STATE_SPEC;
            want[Sections.part(core) + Sections.LINE + 16] = LockElision.READ_BIT;
            CHECK.due("the first step of core " + core, x.step(core), LockElision.STEP_BEGAN);
            CHECK.same("a begin", Sections.seen(x), want);
            Sections.steps(x, core, 2);
            int other = (core + 2) % 4;
            Sections.speculate(x, other, 1, Sections.load(0, 0));
            Sections.must(x.step(other) == LockElision.STEP_COMMITTED);
            CHECK.due("the second begin of core " + core, x.step(core), LockElision.STEP_BEGAN);
            CHECK.due("state after it", x.state(core), LockElision.STATE_SPEC);
            CHECK.due("pc after it", x.pc(core), 0);
            CHECK.due("r0 after it", x.reg(core, 0), 0);
            CHECK.due("the other section saw nothing of the first try", x.result(other, 0), 4);
        }
    }

    private static void footprintOfABegin() {
        for (int core = 0; core < 4; core++) {
            LockElision x = new LockElision(4, 4, 2);
            Sections.start(x, core, Sections.load(0, 0), Sections.store(0, 60));
            for (int tries = 0; tries < 2; tries++) {
                CHECK.due("begin", x.step(core), LockElision.STEP_BEGAN);
                for (int line = 0; line <= 16; line++) {
                    CHECK.due("lineState(" + core + ", " + line + ") after a begin", x.lineState(core, line),
                            line == 16 ? LockElision.READ_BIT : 0);
                }
                Sections.steps(x, core, 2);
                int other = (core + 1) % 4;
                Sections.speculate(x, other, 1, Sections.store(0, 0));
                Sections.must(x.step(other) == LockElision.STEP_COMMITTED);
            }
        }
    }

    private static void beginKeepsTheAbort() {
        LockElision x = new LockElision(4, 4, 7);
        Sections.start(x, 0, Sections.load(0, 0));
        for (int n = 0; n <= 7; n++) {
            int cause = n == 0 ? LockElision.CAUSE_NONE : n % 2 == 0 ? LockElision.CAUSE_LOCK : LockElision.CAUSE_CONFLICT;
            CHECK.due("begin number " + (n + 1), x.step(0), LockElision.STEP_BEGAN);
            CHECK.due("attempts after it", x.attempts(0), n);
            CHECK.due("cause after it", x.lastCause(0), cause);
            CHECK.due("code after it", x.abortCode(0), 0);
            Sections.steps(x, 0, 1);
            if (n % 2 == 0) {
                Sections.speculate(x, 1, 1, Sections.store(0, 0));
            } else {
                Sections.lock(x, 1, Sections.store(0, 0));
            }
            Sections.runOn(x, 1);
        }
    }

    private static void acquire() {
        for (int core = 0; core < 4; core++) {
            LockElision x = waiting(core);
            int[] want = Sections.seen(x);
            want[0] = core;
            want[Sections.part(core) + Sections.STATE] = LockElision.STATE_LOCKED;
            CHECK.due("acquire of core " + core, x.step(core), LockElision.STEP_ACQUIRED);
            CHECK.due("lockOwner()", x.lockOwner(), core);
            CHECK.same("an acquire", Sections.seen(x), want);
        }
    }

    /** The core waits for the free lock after an explicit abort with code -5. */
    private static LockElision waiting(int core) {
        LockElision x = new LockElision(4, 4, 2);
        Sections.speculate(x, core, 2, Sections.loadi(2, 9), Sections.store(2, 3), Sections.xabort(-5));
        Sections.must(x.step(core) == LockElision.STEP_ABORTED);
        return x;
    }

    /** Of the other cores one holds lines, one has only begun, one is READY: the first two fall. */
    private static void acquireAbortsTheSpeculating() {
        for (int retries = 0; retries < 2; retries++) {
            for (int owner = 0; owner < 4; owner++) {
                LockElision x = new LockElision(4, 4, retries);
                Sections.start(x, owner, Sections.xabort(1));
                x.step(owner);
                x.step(owner);
                int spec = (owner + 1) % 4;
                int begun = (owner + 2) % 4;
                Sections.speculate(x, spec, 2, Sections.loadi(0, 5), Sections.store(0, 40), Sections.load(0, 8));
                Sections.speculate(x, begun, 0, Sections.loadi(0, 5));
                Sections.start(x, (owner + 3) % 4, Sections.loadi(0, 5));
                int[] want = Sections.seen(x);
                want[0] = owner;
                want[Sections.part(owner) + Sections.STATE] = LockElision.STATE_LOCKED;
                int state = retries == 0 ? LockElision.STATE_WAITLOCK : LockElision.STATE_READY;
                Sections.fallen(want, spec, LockElision.CAUSE_LOCK, state);
                Sections.fallen(want, begun, LockElision.CAUSE_LOCK, state);
                CHECK.due("acquire", x.step(owner), LockElision.STEP_ACQUIRED);
                CHECK.same("an acquire over others", Sections.seen(x), want);
            }
        }
    }

    private static void locked() {
        for (int core = 0; core < 4; core++) {
            LockElision x = waiting(core);
            CHECK.due("acquire", x.step(core), LockElision.STEP_ACQUIRED);
            CHECK.due("state", x.state(core), LockElision.STATE_LOCKED);
            CHECK.due("pc", x.pc(core), 0);
            for (int r = 0; r < 4; r++) {
                CHECK.due("r" + r, x.reg(core, r), 0);
            }
            CHECK.due("attempts", x.attempts(core), 1);
            CHECK.due("code", x.abortCode(core), -5);
        }
    }

    /** With one way and one set a section can touch no line in speculation; under the lock it can touch all. */
    private static void lockedRunsOnMemory() {
        LockElision x = new LockElision(1, 1, 2);
        x.poke(62, 620);
        Sections.lock(x, 3, Sections.loadi(0, 1), Sections.store(0, 0), Sections.store(0, 63), Sections.load(1, 63),
                Sections.load(2, 62), Sections.loadi(3, -2), Sections.storex(0, 3), Sections.loadx(2, 3));
        Sections.steps(x, 3, 1);
        CHECK.due("peek(0) before the store", x.peek(0), 0);
        Sections.steps(x, 3, 1);
        CHECK.due("peek(0) after the store", x.peek(0), 1);
        CHECK.due("peek(63) before the store", x.peek(63), 0);
        Sections.steps(x, 3, 2);
        CHECK.due("peek(63) after the store", x.peek(63), 1);
        CHECK.due("a load of the stored word", x.reg(3, 1), 1);
        Sections.steps(x, 3, 1);
        CHECK.due("a load of a poked word", x.reg(3, 2), 620);
        Sections.steps(x, 3, 2);
        CHECK.due("peek(62) after the indexed store", x.peek(62), 1);
        Sections.steps(x, 3, 1);
        CHECK.due("an indexed load", x.reg(3, 2), 1);
        for (int line = 0; line <= 16; line++) {
            CHECK.due("lineState(3, " + line + ") under the lock", x.lineState(3, line), 0);
        }
    }

    private static void explicitAbortUnderTheLock() {
        for (int code : new int[] {Integer.MIN_VALUE, 0, 9, Integer.MAX_VALUE}) {
            LockElision x = new LockElision(4, 4, 2);
            Sections.lock(x, 0, Sections.loadi(0, 4), Sections.store(0, 2), Sections.xabort(code));
            Sections.steps(x, 0, 2);
            int[] want = Sections.seen(x);
            want[Sections.part(0) + Sections.PC] = 4;
            CHECK.due("OP_XABORT under the lock", x.step(0), LockElision.STEP_EXECUTED);
            CHECK.same("OP_XABORT under the lock", Sections.seen(x), want);
            CHECK.due("release", x.step(0), LockElision.STEP_RELEASED);
        }
    }
}
