import java.util.function.IntBinaryOperator;
import java.util.function.IntUnaryOperator;

/** Promises 8 to 17: what each looking method answers, for inputs in and out of range, and that it changes nothing. */
public final class ObserverTest {
    private static final Check CHECK = new Check();
    private static final int[] NOT_A_KIND = {-1, 3, 4, -3, Integer.MIN_VALUE, Integer.MAX_VALUE};
    private static final int[] NOT_A_LINE = {-1, 17, 18, -17, 64, Integer.MIN_VALUE, Integer.MAX_VALUE};

    public static void main(String[] args) {
        LockElision x = busy();
        int[] before = Sections.seen(x);
        inRange(x);
        outOfRange(x);
        CHECK.same("after looking", Sections.seen(x), before);
        promise08State();
        promise09Pc();
        promise11Result();
        promise12Attempts();
        promise13And14CauseAndCode();
        promise15Count();
        promise16LockOwner();
        promise17LineState();
        CHECK.end();
    }

    /** Core 0 is IDLE after a release, 1 speculates, 2 waits for the lock, 3 is READY after a conflict. */
    private static LockElision busy() {
        LockElision x = new LockElision(4, 4, 3);
        Sections.lock(x, 0, Sections.loadi(0, 11), Sections.loadi(1, 12), Sections.loadi(2, 13), Sections.loadi(3, 14));
        Sections.steps(x, 0, 4);
        x.step(0);
        Sections.speculate(x, 3, 1, Sections.load(0, 6));
        Sections.speculate(x, 1, 4, Sections.loadi(1, 21), Sections.loadi(3, 23), Sections.load(0, 60), Sections.store(1, 5),
                Sections.loadi(0, 0));
        Sections.start(x, 2, Sections.xabort(-33));
        x.step(2);
        x.step(2);
        return x;
    }

    private static void inRange(LockElision x) {
        four("state", x::state, LockElision.STATE_IDLE, LockElision.STATE_SPEC, LockElision.STATE_WAITLOCK,
                LockElision.STATE_READY);
        four("pc", x::pc, 5, 4, 0, 0);
        four("attempts", x::attempts, 1, 0, 1, 1);
        four("lastCause", x::lastCause, LockElision.CAUSE_EXPLICIT, LockElision.CAUSE_NONE, LockElision.CAUSE_EXPLICIT,
                LockElision.CAUSE_CONFLICT);
        four("abortCode", x::abortCode, 0, 0, -33, 0);
        table("reg", x::reg, new int[][] {{11, 12, 13, 14}, {0, 21, 0, 23}, {0, 0, 0, 0}, {0, 0, 0, 0}});
        table("result", x::result, new int[][] {{11, 12, 13, 14}, {0, 0, 0, 0}, {0, 0, 0, 0}, {0, 0, 0, 0}});
        table("count", x::count, new int[][] {{0, 1, 1}, {0, 0, 0}, {0, 0, 1}, {0, 0, 1}});
        int[][] lines = new int[4][17];
        lines[1][1] = LockElision.WRITE_BIT;
        lines[1][15] = LockElision.READ_BIT;
        lines[1][16] = LockElision.READ_BIT;
        table("lineState", x::lineState, lines);
        CHECK.due("lockOwner()", x.lockOwner(), -1);
    }

    private static void four(String name, IntUnaryOperator look, int... want) {
        for (int core = 0; core < 4; core++) {
            CHECK.due(name + "(" + core + ")", look.applyAsInt(core), want[core]);
        }
    }

    private static void table(String name, IntBinaryOperator look, int[][] want) {
        for (int core = 0; core < 4; core++) {
            for (int i = 0; i < want[core].length; i++) {
                CHECK.due(name + "(" + core + ", " + i + ")", look.applyAsInt(core, i), want[core][i]);
            }
        }
    }

    private static void outOfRange(LockElision x) {
        for (int core : Check.NOT_0_TO_3) {
            CHECK.due("state(" + core + ")", x.state(core), -1);
            CHECK.due("pc(" + core + ")", x.pc(core), -1);
            CHECK.due("attempts(" + core + ")", x.attempts(core), -1);
            CHECK.due("lastCause(" + core + ")", x.lastCause(core), -1);
            CHECK.due("abortCode(" + core + ")", x.abortCode(core), 0);
        }
        outside("reg", x::reg, Check.NOT_0_TO_3, 4, 0);
        outside("result", x::result, Check.NOT_0_TO_3, 4, 0);
        outside("count", x::count, NOT_A_KIND, 3, -1);
        outside("lineState", x::lineState, NOT_A_LINE, 17, -1);
    }

    /** A wrong core with every second input, a wrong second input with every core, and both wrong. */
    private static void outside(String name, IntBinaryOperator look, int[] wrong, int size, int want) {
        for (int core : Check.NOT_0_TO_3) {
            for (int i = 0; i < size; i++) {
                CHECK.due(name + "(" + core + ", " + i + ")", look.applyAsInt(core, i), want);
            }
            for (int i : wrong) {
                CHECK.due(name + "(" + core + ", " + i + ")", look.applyAsInt(core, i), want);
            }
        }
        for (int core = 0; core < 4; core++) {
            for (int i : wrong) {
                CHECK.due(name + "(" + core + ", " + i + ")", look.applyAsInt(core, i), want);
            }
        }
    }

    private static void promise08State() {
        LockElision x = new LockElision(4, 4, 0);
        CHECK.due("state at start", x.state(2), LockElision.STATE_IDLE);
        Sections.start(x, 2, Sections.xabort(0));
        int[] want = {LockElision.STATE_READY, LockElision.STATE_SPEC, LockElision.STATE_WAITLOCK,
            LockElision.STATE_LOCKED, LockElision.STATE_LOCKED, LockElision.STATE_IDLE};
        for (int state : want) {
            CHECK.due("state on the way through a section", x.state(2), state);
            x.step(2);
        }
    }

    private static void promise09Pc() {
        LockElision x = new LockElision(4, 4, 0);
        Sections.start(x, 1, Sections.loadi(0, 1), Sections.jnz(0, 3), Sections.loadi(1, 1), Sections.loadi(1, 2),
                Sections.store(0, 3));
        int[] want = {0, 0, 1, 4, 5, 5};
        for (int pc : want) {
            CHECK.due("pc on the way through a section", x.pc(1), pc);
            x.step(1);
        }
        CHECK.due("pc is kept after the commit", x.pc(1), 5);
    }

    private static void promise11Result() {
        LockElision x = new LockElision(4, 4, 0);
        for (int n = 1; n <= 3; n++) {
            Sections.speculate(x, 3, 4, Sections.loadi(0, n), Sections.loadi(1, 10 * n), Sections.loadi(2, -n),
                    Sections.loadi(3, 7));
            CHECK.due("result before commit " + n, x.result(3, 1), 10 * (n - 1));
            x.step(3);
            CHECK.due("result 0", x.result(3, 0), n);
            CHECK.due("result 1", x.result(3, 1), 10 * n);
            CHECK.due("result 2", x.result(3, 2), -n);
            CHECK.due("result 3", x.result(3, 3), 7);
            CHECK.due("another core's result", x.result(2, 3), 0);
        }
        Sections.speculate(x, 3, 1, Sections.loadi(0, 99), Sections.xabort(0));
        x.step(3);
        CHECK.due("result after an abort", x.result(3, 0), 3);
    }

    private static void promise12Attempts() {
        LockElision x = new LockElision(4, 4, 5);
        Sections.start(x, 0, Sections.load(0, 0));
        for (int n = 1; n <= 3; n++) {
            x.step(0);
            x.step(0);
            Sections.speculate(x, 1, 1, Sections.store(0, 0));
            CHECK.due("attempts", x.attempts(0), n);
            x.step(1);
        }
        x.step(0);
        x.step(0);
        x.step(0);
        CHECK.due("attempts after the commit", x.attempts(0), 3);
        CHECK.due("refused enter", x.enter(2), false);
        x.enter(0);
        CHECK.due("attempts after the next enter", x.attempts(0), 0);
    }

    private static void promise13And14CauseAndCode() {
        LockElision x = new LockElision(1, 1, 5);
        Sections.speculate(x, 0, 0, Sections.xabort(700));
        x.step(0);
        CHECK.due("explicit cause", x.lastCause(0), LockElision.CAUSE_EXPLICIT);
        CHECK.due("explicit code", x.abortCode(0), 700);
        x.step(0);
        x.step(0);
        x.step(0);
        CHECK.due("cause after the release", x.lastCause(0), LockElision.CAUSE_EXPLICIT);
        CHECK.due("code after the release", x.abortCode(0), 700);
        Sections.start(x, 0, Sections.load(0, 0));
        CHECK.due("cause after enter", x.lastCause(0), LockElision.CAUSE_NONE);
        CHECK.due("code after enter", x.abortCode(0), 0);
        x.step(0);
        x.step(0);
        CHECK.due("capacity cause", x.lastCause(0), LockElision.CAUSE_CAPACITY);
        CHECK.due("capacity code", x.abortCode(0), 0);
    }

    private static void promise15Count() {
        LockElision x = new LockElision(4, 4, 5);
        for (int n = 1; n <= 4; n++) {
            Sections.speculate(x, 2, 1, Sections.loadi(0, 1));
            x.step(2);
            CHECK.due("commits", x.count(2, LockElision.COUNT_ELIDED), n);
            CHECK.due("releases", x.count(2, LockElision.COUNT_LOCKED), n - 1);
            Sections.lock(x, 2);
            CHECK.due("aborts", x.count(2, LockElision.COUNT_ABORTS), n);
            x.step(2);
            CHECK.due("releases", x.count(2, LockElision.COUNT_LOCKED), n);
        }
        for (int kind = 0; kind < 3; kind++) {
            CHECK.due("another core's counter", x.count(1, kind), 0);
        }
    }

    private static void promise16LockOwner() {
        LockElision x = new LockElision(4, 4, 5);
        for (int core = 0; core < 4; core++) {
            CHECK.due("owner of the free lock", x.lockOwner(), -1);
            Sections.lock(x, core);
            CHECK.due("owner", x.lockOwner(), core);
            x.step(core);
        }
        CHECK.due("owner after the last release", x.lockOwner(), -1);
        Sections.speculate(x, 0, 0, Sections.loadi(0, 1));
        CHECK.due("owner beside a speculating core", x.lockOwner(), -1);
    }

    private static void promise17LineState() {
        LockElision x = new LockElision(4, 4, 5);
        for (int core = 0; core < 4; core++) {
            Sections.speculate(x, core, 3, Sections.load(0, 16 * core), Sections.store(0, 16 * core + 4),
                    Sections.load(0, 16 * core + 7));
        }
        for (int core = 0; core < 4; core++) {
            for (int line = 0; line < 16; line++) {
                int want = line == 4 * core ? 1 : line == 4 * core + 1 ? 3 : 0;
                CHECK.due("lineState(" + core + ", " + line + ")", x.lineState(core, line), want);
            }
            CHECK.due("lineState(" + core + ", 16)", x.lineState(core, 16), 1);
            x.step(core);
            CHECK.due("the lock line after the commit", x.lineState(core, 16), 0);
            CHECK.due("a line after the commit", x.lineState(core, 4 * core + 1), 0);
        }
    }
}
