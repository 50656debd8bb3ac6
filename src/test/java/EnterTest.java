import java.util.function.Supplier;

/** Promise 4: enter. */
public final class EnterTest {
    private static final Check CHECK = new Check();

    public static void main(String[] args) {
        String refusal = "It answers false and changes nothing if core is not in 0..3, or core is not IDLE, or its program"
                + " is empty.";
        CHECK.sentence(refusal, EnterTest::refusedOutOfRange);
        CHECK.sentence(refusal, EnterTest::refusedWhenNotIdle);
        CHECK.sentence(refusal, EnterTest::refusedWhenEmpty);
        CHECK.sentence("the state becomes READY and pc becomes 0;", EnterTest::stateAndPc);
        CHECK.sentence("r0..r3 = 0;", EnterTest::registers);
        CHECK.sentence("attempts = 0, last cause = `CAUSE_NONE`, abort code = 0;", EnterTest::attemptsCauseAndCode);
        CHECK.sentence("it answers true.", EnterTest::answersTrue);
        CHECK.sentence("Results and counters are kept.", EnterTest::resultsAndCounters);
        CHECK.sentence("Memory, the lock, the program and other cores are unchanged.", EnterTest::allElseIsUnchanged);
        CHECK.sentence("Because programs can be changed only while IDLE, a core's program stays fixed for the whole section.",
                EnterTest::theProgramStaysFixed);
        CHECK.end();
    }

    private static void refusedOutOfRange() {
        for (Supplier<LockElision> past : Pasts.all()) {
            for (int core : Check.NOT_0_TO_3) {
                refused(past, core);
            }
        }
    }

    private static void refusedWhenNotIdle() {
        refused(Pasts::speculating, 1);
        refused(Pasts::speculating, 2);
        refused(Pasts::speculating, 3);
        refused(Pasts::locked, 0);
        refused(Pasts::locked, 2);
        refused(Pasts::locked, 3);
    }

    /** A program is empty at start and when it was cleared, whatever the core has done before. */
    private static void refusedWhenEmpty() {
        for (int core = 0; core < 4; core++) {
            refused(Pasts::fresh, core);
        }
        refused(() -> cleared(Pasts.speculating(), 0), 0);
        refused(() -> cleared(Pasts.locked(), 1), 1);
    }

    private static LockElision cleared(LockElision x, int core) {
        Sections.must(x.clearProgram(core));
        return x;
    }

    private static void refused(Supplier<LockElision> past, int core) {
        Twins.changesNothing(CHECK, "enter(" + core + ")", past, x -> x.enter(core) ? 1 : 0, 0);
    }

    /** Core 1 is IDLE after 16 instructions under the lock; all that enter resets is set. */
    private static LockElision used() {
        LockElision x = new LockElision(4, 4, 2);
        Sections.lock(x, 1, Sections.loadi(0, 10), Sections.loadi(1, 11), Sections.loadi(2, 12), Sections.loadi(3, 13));
        Sections.must(Sections.runOn(x, 1) == LockElision.STEP_RELEASED);
        x.clearProgram(1);
        x.append(1, LockElision.OP_XABORT, 0, -9);
        for (int i = 1; i < 16; i++) {
            x.append(1, LockElision.OP_ADDI, i % 4, 5);
        }
        Sections.must(x.enter(1));
        x.step(1);
        x.step(1);
        x.step(1);
        Sections.must(Sections.runOn(x, 1) == LockElision.STEP_RELEASED);
        return x;
    }

    private static void stateAndPc() {
        LockElision x = used();
        CHECK.due("pc kept at the program's end", x.pc(1), 16);
        x.enter(1);
        CHECK.due("state after enter", x.state(1), LockElision.STATE_READY);
        CHECK.due("pc after enter", x.pc(1), 0);
    }

    private static void registers() {
        LockElision x = used();
        for (int r = 0; r < 4; r++) {
            CHECK.due("register " + r + " kept after the release", x.reg(1, r) != 0, true);
        }
        x.enter(1);
        for (int r = 0; r < 4; r++) {
            CHECK.due("register " + r + " after enter", x.reg(1, r), 0);
        }
    }

    private static void attemptsCauseAndCode() {
        LockElision x = used();
        CHECK.due("attempts kept after the release", x.attempts(1), 1);
        CHECK.due("cause kept after the release", x.lastCause(1), LockElision.CAUSE_EXPLICIT);
        CHECK.due("code kept after the release", x.abortCode(1), -9);
        x.enter(1);
        CHECK.due("attempts after enter", x.attempts(1), 0);
        CHECK.due("cause after enter", x.lastCause(1), LockElision.CAUSE_NONE);
        CHECK.due("code after enter", x.abortCode(1), 0);
    }

    /** Also with one instruction only, with sixteen, and while another core holds the lock or speculates. */
    private static void answersTrue() {
        for (int core = 0; core < 4; core++) {
            LockElision x = new LockElision(2, 2, 2);
            x.append(core, LockElision.OP_LOADI, 0, 1);
            CHECK.due("enter(" + core + ") with one instruction", x.enter(core), true);
        }
        CHECK.due("enter with sixteen instructions", used().enter(1), true);
        CHECK.due("enter beside a speculating core", Pasts.speculating().enter(0), true);
        CHECK.due("enter beside a core that holds the lock", Pasts.locked().enter(1), true);
    }

    private static void resultsAndCounters() {
        LockElision x = used();
        Sections.speculate(x, 1, 1, Sections.loadi(2, 77));
        Sections.must(x.step(1) == LockElision.STEP_COMMITTED);
        Sections.must(x.enter(1));
        int[] results = {0, 0, 77, 0};
        for (int r = 0; r < 4; r++) {
            CHECK.due("result " + r + " after enter", x.result(1, r), results[r]);
        }
        CHECK.due("commits after enter", x.count(1, LockElision.COUNT_ELIDED), 1);
        CHECK.due("releases after enter", x.count(1, LockElision.COUNT_LOCKED), 2);
        CHECK.due("aborts after enter", x.count(1, LockElision.COUNT_ABORTS), 2);
    }

    private static void allElseIsUnchanged() {
        entersAlone(Pasts.speculating(), 0, 5);
        entersAlone(Pasts.locked(), 1, 3);
        entersAlone(used(), 1, 16);
    }

    private static void entersAlone(LockElision x, int core, int length) {
        int[] want = Sections.seen(x);
        int at = Sections.part(core);
        for (int i = Sections.STATE; i < Sections.RESULT; i++) {
            want[at + i] = 0;
        }
        want[at + Sections.STATE] = LockElision.STATE_READY;
        CHECK.due("enter(" + core + ")", x.enter(core), true);
        CHECK.same("what enter resets and what it keeps", Sections.seen(x), want);
        runAllOut(x);
        CHECK.due("length after the section", x.append(core, LockElision.OP_LOADI, 0, 0), length < 16 ? length + 1 : -1);
    }

    private static void runAllOut(LockElision x) {
        for (int i = 0; i < 400; i++) {
            x.step(i % 4);
        }
    }

    /** Tries to change the program in every state of the section; it runs to the end as it was entered. */
    private static void theProgramStaysFixed() {
        LockElision x = new LockElision(4, 4, 2);
        Sections.start(x, 2, Sections.xabort(3), Sections.loadi(0, 8), Sections.store(0, 20));
        int[] answers = {LockElision.STEP_BEGAN, LockElision.STEP_ABORTED, LockElision.STEP_ACQUIRED,
            LockElision.STEP_EXECUTED, LockElision.STEP_EXECUTED, LockElision.STEP_EXECUTED, LockElision.STEP_RELEASED};
        for (int answer : answers) {
            CHECK.due("append inside the section", x.append(2, LockElision.OP_LOADI, 0, 1), -1);
            CHECK.due("clearProgram inside the section", x.clearProgram(2), false);
            CHECK.due("step", x.step(2), answer);
        }
        CHECK.due("its result", x.result(2, 0), 8);
        CHECK.due("its store", x.peek(20), 8);
        CHECK.due("append after the section", x.append(2, LockElision.OP_LOADI, 0, 1), 4);
    }
}
