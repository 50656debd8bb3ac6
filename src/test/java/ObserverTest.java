import java.util.function.IntBinaryOperator;
import java.util.function.IntUnaryOperator;
import java.util.function.Supplier;

/** Promises 8 to 17: what each looking method answers, for inputs in and out of range, and that it changes nothing. */
public final class ObserverTest {
    private static final Check CHECK = new Check();
    private static final int LEAST = Integer.MIN_VALUE;
    private static final int MOST = Integer.MAX_VALUE;
    private static final int[] NOT_A_KIND = {-1, 3, 4, -3, 12, 1 << 30, LEAST, MOST};
    private static final int[] NOT_A_LINE = {-1, 17, 18, -16, -17, 34, 64, 68, 1 << 30, LEAST, MOST};
    private static final String MINUS_1 = "It answers -1 if core is not in 0..3.";
    private static final String NOTHING = "It changes nothing.";

    /** A looking method with one input. */
    private interface Look {
        int at(LockElision x, int core);
    }

    /** A looking method with two inputs. */
    private interface LookTwice {
        int at(LockElision x, int core, int second);
    }

    public static void main(String[] args) {
        promises8And9();
        promises10And11();
        promises12To14();
        promises15To17();
        CHECK.end();
    }

    private static void promises8And9() {
        CHECK.sentence("`state(core)` answers the state of core (one of the `STATE_...` values).", ObserverTest::states);
        CHECK.sentence("state: " + MINUS_1, () -> outside("state", LockElision::state, -1));
        CHECK.sentence("state: " + NOTHING, () -> changesNothing("state", LockElision::state));
        CHECK.sentence("`pc(core)` answers the pc of core.", ObserverTest::pcs);
        CHECK.sentence("pc: " + MINUS_1, () -> outside("pc", LockElision::pc, -1));
        CHECK.sentence("pc: " + NOTHING, () -> changesNothing("pc", LockElision::pc));
    }

    private static void promises10And11() {
        CHECK.sentence("`reg(core, r)` answers the current register r (0..3) of core.", ObserverTest::registers);
        CHECK.sentence("It answers 0 if core or r is out of range.",
                () -> outside("reg", ObserverTest::speculating, LockElision::reg, Check.NOT_0_TO_3, 4, 0));
        CHECK.sentence("reg: " + NOTHING, () -> changesNothing("reg", LockElision::reg, Check.NOT_0_TO_3, 4));
        CHECK.sentence("`result(core, r)` answers result register r (0..3) from core's latest commit or release.",
                ObserverTest::results);
        String none = "It answers 0 if there has been none yet, or if core or r is out of range.";
        CHECK.sentence(none, ObserverTest::noResultYet);
        CHECK.sentence(none, () -> outside("result", ObserverTest::completed, LockElision::result, Check.NOT_0_TO_3, 4, 0));
        CHECK.sentence("result: " + NOTHING, () -> changesNothing("result", LockElision::result, Check.NOT_0_TO_3, 4));
    }

    private static void promises12To14() {
        CHECK.sentence("`attempts(core)` answers the number of aborts of core since its latest successful enter (0 before any).",
                ObserverTest::attempts);
        CHECK.sentence("attempts: " + MINUS_1, () -> outside("attempts", LockElision::attempts, -1));
        CHECK.sentence("attempts: " + NOTHING, () -> changesNothing("attempts", LockElision::attempts));
        CHECK.sentence("`lastCause(core)` answers the cause of core's latest abort since its latest enter, or `CAUSE_NONE` if"
                + " there was none.", ObserverTest::causes);
        CHECK.sentence("lastCause: " + MINUS_1, () -> outside("lastCause", LockElision::lastCause, -1));
        CHECK.sentence("lastCause: " + NOTHING, () -> changesNothing("lastCause", LockElision::lastCause));
        CHECK.sentence("`abortCode(core)` answers the abort code kept by core, as set by an abort and reset by enter.",
                ObserverTest::codes);
        CHECK.sentence("It answers 0 if core is not in 0..3.", () -> outside("abortCode", LockElision::abortCode, 0));
        CHECK.sentence("abortCode: " + NOTHING, () -> changesNothing("abortCode", LockElision::abortCode));
    }

    private static void promises15To17() {
        CHECK.sentence("`COUNT_ELIDED`: commits;", ObserverTest::commits);
        CHECK.sentence("`COUNT_LOCKED`: releases;", ObserverTest::releases);
        CHECK.sentence("`COUNT_ABORTS`: aborts.", ObserverTest::aborts);
        CHECK.sentence("It answers -1 if core is not in 0..3 or kind is not in 0..2.",
                () -> outside("count", ObserverTest::completed, LockElision::count, NOT_A_KIND, 3, -1));
        CHECK.sentence("count: " + NOTHING, () -> changesNothing("count", LockElision::count, NOT_A_KIND, 3));
        CHECK.sentence("`lockOwner()` answers the lock owner: a core, or -1 if the lock is free.", ObserverTest::owners);
        CHECK.sentence("lockOwner: " + NOTHING, () -> changesNothing("lockOwner", (x, core) -> x.lockOwner()));
        CHECK.sentence("`lineState(core, line)` answers the footprint bits of line (0..16) of core: `READ_BIT | WRITE_BIT` as"
                + " set, so 0..3.", ObserverTest::lineStates);
        CHECK.sentence("It answers -1 if core is not in 0..3 or line is not in 0..16.",
                () -> outside("lineState", ObserverTest::speculating, LockElision::lineState, NOT_A_LINE, 17, -1));
        CHECK.sentence("lineState: " + NOTHING, () -> changesNothing("lineState", LockElision::lineState, NOT_A_LINE, 17));
    }

    /** Every core speculates with all registers set and four lines touched, so that a wrong cell would show. */
    private static LockElision speculating() {
        LockElision x = new LockElision(4, 4, 3);
        for (int core = 0; core < 4; core++) {
            int from = 16 * core;
            Sections.speculate(x, core, 8, Sections.load(0, from), Sections.store(0, from + 4), Sections.load(0, from + 8),
                    Sections.store(0, from + 12), Sections.loadi(0, 10 * core + 1), Sections.loadi(1, 10 * core + 2),
                    Sections.loadi(2, 10 * core + 3), Sections.loadi(3, 10 * core + 4));
        }
        return x;
    }

    /** Every core has completed a section each way; no counter and no result is 0. */
    private static LockElision completed() {
        LockElision x = new LockElision(4, 4, 3);
        for (int core = 0; core < 4; core++) {
            Sections.lock(x, core);
            Sections.must(x.step(core) == LockElision.STEP_RELEASED);
            Sections.speculate(x, core, 4, Sections.loadi(0, 5), Sections.loadi(1, 6), Sections.loadi(2, 7), Sections.loadi(3, 8));
            Sections.must(x.step(core) == LockElision.STEP_COMMITTED);
        }
        return x;
    }

    private static void outside(String name, Look look, int want) {
        for (Supplier<LockElision> past : Pasts.all()) {
            LockElision x = past.get();
            for (int core : Check.NOT_0_TO_3) {
                CHECK.due(name + "(" + core + ")", look.at(x, core), want);
            }
        }
    }

    /** A wrong core with every second input, a wrong second input with every core, and both wrong. */
    private static void outside(String name, Supplier<LockElision> past, LookTwice look, int[] wrong, int size, int want) {
        LockElision x = past.get();
        for (int core : Check.NOT_0_TO_3) {
            for (int i = 0; i < size; i++) {
                CHECK.due(name + "(" + core + ", " + i + ")", look.at(x, core, i), want);
            }
            for (int i : wrong) {
                CHECK.due(name + "(" + core + ", " + i + ")", look.at(x, core, i), want);
            }
        }
        for (int core = 0; core < 4; core++) {
            for (int i : wrong) {
                CHECK.due(name + "(" + core + ", " + i + ")", look.at(x, core, i), want);
            }
        }
    }

    private static void changesNothing(String name, Look look) {
        for (Supplier<LockElision> past : Pasts.all()) {
            for (int core : new int[] {0, 1, 2, 3, -1, 4, LEAST, MOST}) {
                int want = look.at(past.get(), core);
                Twins.changesNothing(CHECK, name + "(" + core + ")", past, x -> look.at(x, core), want);
            }
        }
    }

    private static void changesNothing(String name, LookTwice look, int[] wrong, int size) {
        for (int i = 0; i < size; i++) {
            int second = i;
            changesNothing(name + " with " + second, (x, core) -> look.at(x, core, second));
        }
        for (int second : wrong) {
            changesNothing(name + " with " + second, (x, core) -> look.at(x, core, second));
        }
    }

    private static void four(String name, IntUnaryOperator look, int... want) {
        for (int core = 0; core < 4; core++) {
            CHECK.due(name + "(" + core + ")", look.applyAsInt(core), want[core]);
        }
    }

    private static void table(String name, IntBinaryOperator look, int[][] want) {
        for (int core = 0; core < 4; core++) {
            for (int i = 0; i < want[core].length; i++) {
                CHECK.due(name + "(" + core + ", " + i + ")", look.applyAsInt(core, i), want[core][i]);
            }
        }
    }

    private static void states() {
        four("state", Pasts.fresh()::state, 0, 0, 0, 0);
        four("state", Pasts.speculating()::state, LockElision.STATE_IDLE, LockElision.STATE_SPEC, LockElision.STATE_WAITLOCK,
                LockElision.STATE_READY);
        four("state", Pasts.locked()::state, LockElision.STATE_LOCKED, LockElision.STATE_IDLE, LockElision.STATE_WAITLOCK,
                LockElision.STATE_READY);
    }

    private static void pcs() {
        four("pc", Pasts.fresh()::pc, 0, 0, 0, 0);
        four("pc", Pasts.speculating()::pc, 5, 5, 0, 0);
        four("pc", Pasts.locked()::pc, 3, 3, 0, 0);
        LockElision x = new LockElision(4, 4, 0);
        Sections.start(x, 1, Sections.loadi(0, 1), Sections.jnz(0, 3), Sections.loadi(1, 1), Sections.loadi(1, 2),
                Sections.store(0, 3));
        for (int pc : new int[] {0, 0, 1, 4, 5, 5}) {
            CHECK.due("pc on the way through a section", x.pc(1), pc);
            x.step(1);
        }
        x.clearProgram(1);
        CHECK.due("pc when the program was cleared", x.pc(1), 5);
    }

    private static void registers() {
        table("reg", Pasts.fresh()::reg, new int[4][4]);
        table("reg", speculating()::reg, new int[][] {{1, 2, 3, 4}, {11, 12, 13, 14}, {21, 22, 23, 24}, {31, 32, 33, 34}});
        table("reg", Pasts.speculating()::reg, new int[][] {{11, 12, 13, 14}, {600, 21, 0, 23}, {0, 0, 0, 0}, {0, 0, 0, 0}});
        for (int value : new int[] {LEAST, -1, MOST}) {
            LockElision x = Pasts.fresh();
            Sections.speculate(x, 3, 1, Sections.loadi(3, value));
            CHECK.due("reg(3, 3)", x.reg(3, 3), value);
        }
    }

    /** A later commit or release takes the place of an earlier one; an abort doesn't. */
    private static void results() {
        table("result", completed()::result, new int[][] {{5, 6, 7, 8}, {5, 6, 7, 8}, {5, 6, 7, 8}, {5, 6, 7, 8}});
        LockElision x = new LockElision(4, 4, 0);
        for (int n = 1; n <= 3; n++) {
            Sections.speculate(x, 3, 2, Sections.loadi(0, n), Sections.loadi(3, -n));
            x.step(3);
            CHECK.due("result(3, 0) after commit " + n, x.result(3, 0), n);
            CHECK.due("result(3, 3) after commit " + n, x.result(3, 3), -n);
            Sections.lock(x, 3, Sections.loadi(0, 10 * n));
            CHECK.due("result(3, 0) after an abort", x.result(3, 0), n);
            Sections.steps(x, 3, 1);
            x.step(3);
            CHECK.due("result(3, 0) after release " + n, x.result(3, 0), 10 * n);
            CHECK.due("result(3, 3) after release " + n, x.result(3, 3), 0);
        }
    }

    /** Before the first completion: at start, in speculation with registers set, and after an abort. */
    private static void noResultYet() {
        table("result", Pasts.fresh()::result, new int[4][4]);
        LockElision x = speculating();
        table("result", x::result, new int[4][4]);
        Sections.must(x.step(0) == LockElision.STEP_COMMITTED);
        table("result", x::result, new int[][] {{1, 2, 3, 4}, {0, 0, 0, 0}, {0, 0, 0, 0}, {0, 0, 0, 0}});
        LockElision y = new LockElision(4, 4, 0);
        Sections.lock(y, 2, Sections.loadi(0, 5));
        Sections.steps(y, 2, 1);
        table("result", y::result, new int[4][4]);
    }

    private static void attempts() {
        four("attempts", Pasts.fresh()::attempts, 0, 0, 0, 0);
        four("attempts", Pasts.speculating()::attempts, 1, 0, 1, 1);
        LockElision x = new LockElision(4, 4, 7);
        Sections.start(x, 0, Sections.load(0, 0));
        for (int n = 1; n <= 8; n++) {
            x.step(0);
            x.step(0);
            Sections.speculate(x, 1, 1, Sections.store(0, 0));
            CHECK.due("attempts after abort " + n, x.attempts(0), n);
            x.step(1);
            CHECK.due("a refused enter", x.enter(0), false);
            CHECK.due("attempts after the refused enter", x.attempts(0), n);
        }
        x.step(0);
        CHECK.due("release", Sections.runOn(x, 0), LockElision.STEP_RELEASED);
        CHECK.due("attempts after the release", x.attempts(0), 8);
        CHECK.due("enter", x.enter(0), true);
        CHECK.due("attempts after the next enter", x.attempts(0), 0);
    }

    private static void causes() {
        four("lastCause", Pasts.fresh()::lastCause, 0, 0, 0, 0);
        four("lastCause", Pasts.speculating()::lastCause, LockElision.CAUSE_EXPLICIT, LockElision.CAUSE_NONE,
                LockElision.CAUSE_EXPLICIT, LockElision.CAUSE_CONFLICT);
        LockElision x = new LockElision(1, 1, 5);
        Sections.speculate(x, 0, 0, Sections.load(0, 0));
        x.step(0);
        CHECK.due("cause after an overflow", x.lastCause(0), LockElision.CAUSE_CAPACITY);
        Sections.speculate(x, 1, 0, Sections.loadi(0, 0));
        x.step(0);
        CHECK.due("cause after another's acquire", x.lastCause(1), LockElision.CAUSE_LOCK);
        CHECK.due("cause of the acquiring core", x.lastCause(0), LockElision.CAUSE_CAPACITY);
        Sections.runOn(x, 0);
        CHECK.due("cause after the release", x.lastCause(0), LockElision.CAUSE_CAPACITY);
        x.enter(0);
        CHECK.due("cause after enter", x.lastCause(0), LockElision.CAUSE_NONE);
    }

    private static void codes() {
        four("abortCode", Pasts.fresh()::abortCode, 0, 0, 0, 0);
        four("abortCode", Pasts.speculating()::abortCode, 0, 0, -33, 0);
        for (int code : new int[] {LEAST, -1, 1, 700, MOST}) {
            LockElision x = new LockElision(1, 1, 5);
            Sections.speculate(x, 3, 0, Sections.xabort(code));
            CHECK.due("code before the abort", x.abortCode(3), 0);
            x.step(3);
            CHECK.due("code after the abort", x.abortCode(3), code);
            x.step(3);
            CHECK.due("code under the lock", x.abortCode(3), code);
            CHECK.due("release", Sections.runOn(x, 3), LockElision.STEP_RELEASED);
            CHECK.due("code after the release", x.abortCode(3), code);
            x.enter(3);
            CHECK.due("code after enter", x.abortCode(3), 0);
        }
    }

    private static void commits() {
        LockElision x = new LockElision(4, 4, 5);
        for (int n = 1; n <= 4; n++) {
            for (int core = 0; core < n; core++) {
                Sections.speculate(x, core, 1, Sections.loadi(0, 1));
                x.step(core);
            }
        }
        table("count", x::count, new int[][] {{4, 0, 0}, {3, 0, 0}, {2, 0, 0}, {1, 0, 0}});
    }

    private static void releases() {
        LockElision x = new LockElision(4, 4, 5);
        for (int n = 1; n <= 4; n++) {
            for (int core = 0; core < n; core++) {
                Sections.lock(x, core);
                x.step(core);
            }
        }
        table("count", x::count, new int[][] {{0, 4, 4}, {0, 3, 3}, {0, 2, 2}, {0, 1, 1}});
    }

    /** Aborts of all causes count, also in later sections; the section that won does not. */
    private static void aborts() {
        LockElision x = new LockElision(4, 4, 5);
        for (int n = 1; n <= 10; n++) {
            Sections.speculate(x, 0, 1, Sections.load(0, 0));
            Sections.speculate(x, 1, 1, Sections.store(0, 0));
            CHECK.due("aborts after a conflict", x.count(0, LockElision.COUNT_ABORTS), 2 * n - 1);
            CHECK.due("aborts of the winner", x.count(1, LockElision.COUNT_ABORTS), 0);
            x.step(1);
            x.step(0);
            Sections.lock(x, 2);
            CHECK.due("aborts after an acquire", x.count(0, LockElision.COUNT_ABORTS), 2 * n);
            CHECK.due("aborts of the owner", x.count(2, LockElision.COUNT_ABORTS), n);
            x.step(2);
            x.step(0);
            CHECK.due("commit", Sections.runOn(x, 0), LockElision.STEP_COMMITTED);
        }
    }

    private static void owners() {
        LockElision x = new LockElision(4, 4, 5);
        for (int core = 0; core < 4; core++) {
            CHECK.due("owner of the free lock", x.lockOwner(), -1);
            Sections.lock(x, core);
            CHECK.due("owner", x.lockOwner(), core);
            x.step(core);
        }
        CHECK.due("owner after the last release", x.lockOwner(), -1);
        CHECK.due("owner beside a speculating and a waiting core", Pasts.speculating().lockOwner(), -1);
        CHECK.due("owner beside waiting cores", Pasts.locked().lockOwner(), 0);
    }

    /** Lines 0 and 15, the lock line, and each of the four values; none after the commit. */
    private static void lineStates() {
        for (int core = 0; core < 4; core++) {
            LockElision x = new LockElision(4, 4, 5);
            int[][] want = new int[4][17];
            Sections.start(x, core, Sections.load(0, 3), Sections.store(0, 60), Sections.store(0, 31), Sections.load(0, 28));
            table("lineState", x::lineState, want);
            x.step(core);
            want[core][16] = LockElision.READ_BIT;
            table("lineState", x::lineState, want);
            Sections.steps(x, core, 4);
            want[core][0] = LockElision.READ_BIT;
            want[core][15] = LockElision.WRITE_BIT;
            want[core][7] = LockElision.READ_BIT | LockElision.WRITE_BIT;
            table("lineState", x::lineState, want);
            x.step(core);
            table("lineState", x::lineState, new int[4][17]);
        }
    }
}
