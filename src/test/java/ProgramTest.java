import java.util.function.Supplier;

/** Promise 2 (append) and promise 3 (clearProgram). */
public final class ProgramTest {
    private static final Check CHECK = new Check();
    private static final int LEAST = Integer.MIN_VALUE;
    private static final int MOST = Integer.MAX_VALUE;
    private static final int[] NOT_AN_OP = {-1, 9, 10, 15, 16, -8, -9, 1 << 30, LEAST, MOST};

    public static void main(String[] args) {
        CHECK.sentence("core is in 0..3;", ProgramTest::appendNeedsACore);
        CHECK.sentence("core is IDLE;", ProgramTest::appendNeedsAnIdleCore);
        CHECK.sentence("program length < 16;", ProgramTest::appendNeedsRoom);
        CHECK.sentence("op is in 0..8;", ProgramTest::appendNeedsAnOp);
        CHECK.sentence("a is in 0..3;", ProgramTest::appendNeedsARegister);
        CHECK.sentence("b is in the range of op, as given in the instruction table.", ProgramTest::appendNeedsAnAllowedB);
        CHECK.sentence("If any condition fails, it answers -1 and changes nothing.", ProgramTest::refusedAppends);
        CHECK.sentence("Otherwise it appends the instruction and answers the new length (1..16).", ProgramTest::appendedInOrder);
        CHECK.sentence("Nothing besides that core's program changes.", ProgramTest::appendChangesOnlyThatProgram);
        CHECK.sentence("It answers false and changes nothing if core is not in 0..3 or core is not IDLE.",
                ProgramTest::refusedClears);
        CHECK.sentence("Otherwise the length becomes 0 and it answers true.", ProgramTest::clearEmptiesTheProgram);
        CHECK.sentence("This includes the case where the program was already empty.", ProgramTest::clearOfAnEmptyProgram);
        CHECK.sentence("Nothing else changes.", ProgramTest::clearChangesOnlyThatProgram);
        CHECK.end();
    }

    private static void appendNeedsACore() {
        LockElision x = Pasts.fresh();
        for (int core = 0; core < 4; core++) {
            appended(x, core, LockElision.OP_LOADI, 0, 0, 1);
        }
        for (int core : Check.NOT_0_TO_3) {
            refused(Pasts::fresh, core, LockElision.OP_LOADI, 0, 0);
        }
    }

    private static void appendNeedsAnIdleCore() {
        refused(Pasts::speculating, 1, LockElision.OP_LOADI, 0, 0);
        refused(Pasts::speculating, 2, LockElision.OP_LOADI, 0, 0);
        refused(Pasts::speculating, 3, LockElision.OP_LOADI, 0, 0);
        refused(Pasts::locked, 0, LockElision.OP_LOADI, 0, 0);
        appended(Pasts.speculating(), 0, LockElision.OP_LOADI, 0, 0, 6);
        appended(Pasts.locked(), 1, LockElision.OP_LOADI, 0, 0, 4);
    }

    private static void appendNeedsRoom() {
        LockElision x = Pasts.fresh();
        for (int core = 0; core < 4; core++) {
            for (int length = 1; length <= 16; length++) {
                appended(x, core, LockElision.OP_ADDI, 0, length + core, length);
            }
            appended(x, core, LockElision.OP_ADDI, 0, 1, -1);
            appended(x, core, LockElision.OP_LOADI, 0, 1, -1);
        }
        for (int core = 0; core < 4; core++) {
            CHECK.due("enter(" + core + ")", x.enter(core), true);
            x.step(core);
            Sections.steps(x, core, 16);
            CHECK.due("commit after 16 instructions", x.step(core), LockElision.STEP_COMMITTED);
            CHECK.due("sum of core " + core, x.result(core, 0), 136 + 16 * core);
            CHECK.due("clearProgram(" + core + ")", x.clearProgram(core), true);
            appended(x, core, LockElision.OP_LOADI, 0, 1, 1);
        }
    }

    private static void appendNeedsAnOp() {
        for (int op = 0; op <= 8; op++) {
            appended(Pasts.fresh(), 0, op, 0, 1, 1);
        }
        for (int op : NOT_AN_OP) {
            for (int b : new int[] {LEAST, -1, 0, 1, 3, 16, 63, MOST}) {
                refused(Pasts::fresh, 0, op, 0, b);
            }
        }
    }

    private static void appendNeedsARegister() {
        for (int op = 0; op <= 8; op++) {
            for (int a = 0; a < 4; a++) {
                appended(Pasts.fresh(), 0, op, a, 1, 1);
            }
            for (int a : Check.NOT_0_TO_3) {
                refused(Pasts::fresh, 0, op, a, 1);
            }
        }
    }

    private static void appendNeedsAnAllowedB() {
        int[][] allowed = {{LEAST, MOST}, {0, 63}, {0, 63}, {0, 3}, {LEAST, MOST}, {0, 3}, {0, 3}, {LEAST, MOST}, {1, 16}};
        int[] bs = {LEAST, LEAST + 1, -64, -17, -2, -1, 0, 1, 2, 3, 4, 5, 15, 16, 17, 18, 31, 62, 63, 64, 65, 100, 256,
            1 << 30, MOST - 1, MOST};
        for (int op = 0; op <= 8; op++) {
            for (int b : bs) {
                if (b >= allowed[op][0] && b <= allowed[op][1]) {
                    appended(Pasts.fresh(), 3, op, 3, b, 1);
                } else {
                    refused(Pasts::fresh, 3, op, 3, b);
                }
            }
        }
    }

    /** Each condition fails alone, and all of them at once, on objects of every past. */
    private static void refusedAppends() {
        for (Supplier<LockElision> past : Pasts.all()) {
            int idle = past.get().state(0) == LockElision.STATE_IDLE ? 0 : 1;
            refused(past, -1, LockElision.OP_LOADI, 0, 0);
            refused(past, 4, LockElision.OP_LOADI, 0, 0);
            refused(past, idle, -1, 0, 0);
            refused(past, idle, 9, 0, 1);
            refused(past, idle, LockElision.OP_LOADI, -1, 0);
            refused(past, idle, LockElision.OP_LOADI, 4, 0);
            refused(past, idle, LockElision.OP_LOAD, 0, -1);
            refused(past, idle, LockElision.OP_STORE, 0, 64);
            refused(past, idle, LockElision.OP_JNZ, 0, 0);
            refused(past, idle, LockElision.OP_JNZ, 0, 17);
            refused(past, 4, 9, 4, 64);
            refused(past, LEAST, LEAST, LEAST, LEAST);
            refused(past, MOST, MOST, MOST, MOST);
        }
        refused(Pasts::speculating, 1, 9, 4, 64);
        refused(Pasts::locked, 0, 9, 4, 64);
        refused(ProgramTest::full, 2, LockElision.OP_LOADI, 0, 9);
        refused(ProgramTest::full, 2, 9, 4, 64);
    }

    /** Core 2 has a program of 16 instructions. */
    private static LockElision full() {
        LockElision x = Pasts.fresh();
        for (int i = 1; i <= 16; i++) {
            Sections.must(x.append(2, LockElision.OP_ADDI, i % 4, i) == i);
        }
        return x;
    }

    private static void appendedInOrder() {
        LockElision x = Pasts.fresh();
        for (int length = 1; length <= 16; length++) {
            appended(x, 3, LockElision.OP_ADDI, length % 4, 1 << length, length);
        }
        x.enter(3);
        x.step(3);
        int[] registers = new int[4];
        for (int length = 1; length <= 16; length++) {
            Sections.steps(x, 3, 1);
            registers[length % 4] += 1 << length;
            for (int r = 0; r < 4; r++) {
                CHECK.due("r" + r + " after instruction " + length, x.reg(3, r), registers[r]);
            }
        }
        CHECK.due("the end of the program", x.step(3), LockElision.STEP_COMMITTED);
    }

    /** The other three cores go on as if nothing had been appended, and the instruction is not run at once. */
    private static void appendChangesOnlyThatProgram() {
        for (Supplier<LockElision> past : Pasts.all()) {
            int idle = past.get().state(0) == LockElision.STATE_IDLE ? 0 : 1;
            LockElision x = past.get();
            int[] before = Sections.seen(x);
            CHECK.due("append", x.append(idle, LockElision.OP_STORE, 1, 7) > 0, true);
            CHECK.same("all but the program after append", Sections.seen(x), before);
            x.clearProgram(idle);
            LockElision twin = past.get();
            twin.clearProgram(idle);
            Twins.sameFuture(CHECK, "append and clearProgram", x, twin);
        }
    }

    private static void refusedClears() {
        for (Supplier<LockElision> past : Pasts.all()) {
            for (int core : Check.NOT_0_TO_3) {
                clearRefused(past, core);
            }
        }
        for (int core : Check.NOT_0_TO_3) {
            clearRefused(ProgramTest::full, core);
        }
        clearRefused(Pasts::speculating, 1);
        clearRefused(Pasts::speculating, 2);
        clearRefused(Pasts::speculating, 3);
        clearRefused(Pasts::locked, 0);
    }

    private static void clearRefused(Supplier<LockElision> past, int core) {
        Twins.changesNothing(CHECK, "clearProgram(" + core + ")", past, x -> x.clearProgram(core) ? 1 : 0, 0);
    }

    private static void clearEmptiesTheProgram() {
        for (int length = 1; length <= 16; length++) {
            for (int core = 0; core < 4; core++) {
                LockElision x = Pasts.fresh();
                for (int i = 0; i < length; i++) {
                    x.append(core, LockElision.OP_ADDI, 0, 1);
                }
                CHECK.due("clearProgram(" + core + ") at length " + length, x.clearProgram(core), true);
                CHECK.due("enter(" + core + ") after the clear", x.enter(core), false);
                appended(x, core, LockElision.OP_LOADI, 1, 5, 1);
                CHECK.due("enter(" + core + ")", x.enter(core), true);
                CHECK.due("begin", x.step(core), LockElision.STEP_BEGAN);
                CHECK.due("the one instruction", x.step(core), LockElision.STEP_EXECUTED);
                CHECK.due("its end", x.step(core), LockElision.STEP_COMMITTED);
                CHECK.due("nothing of the old program was run", x.result(core, 0), 0);
            }
        }
    }

    private static void clearOfAnEmptyProgram() {
        for (int core = 0; core < 4; core++) {
            LockElision x = Pasts.fresh();
            CHECK.due("clearProgram(" + core + ") of a new object", x.clearProgram(core), true);
            CHECK.due("clearProgram(" + core + ") again", x.clearProgram(core), true);
            appended(x, core, LockElision.OP_LOADI, 0, 1, 1);
            CHECK.due("clearProgram(" + core + ")", x.clearProgram(core), true);
            CHECK.due("clearProgram(" + core + ") again", x.clearProgram(core), true);
            CHECK.due("enter(" + core + ")", x.enter(core), false);
            appended(x, core, LockElision.OP_LOADI, 0, 1, 1);
        }
    }

    /** A cleared program that is written anew leaves no trace, on the core itself or on another. */
    private static void clearChangesOnlyThatProgram() {
        LockElision x = Pasts.speculating();
        int[] before = Sections.seen(x);
        CHECK.due("clearProgram of a released core", x.clearProgram(0), true);
        CHECK.same("all but the program after clearProgram", Sections.seen(x), before);
        x.append(0, LockElision.OP_XABORT, 0, 0);
        for (int r = 0; r < 4; r++) {
            x.append(0, LockElision.OP_LOADI, r, 11 + r);
        }
        Twins.sameFuture(CHECK, "clearProgram and the same program again", x, Pasts.speculating());
        LockElision y = Pasts.locked();
        before = Sections.seen(y);
        CHECK.due("clearProgram of a committed core", y.clearProgram(1), true);
        CHECK.same("all but the program after clearProgram", Sections.seen(y), before);
        y.append(1, LockElision.OP_LOADI, 0, -7);
        y.append(1, LockElision.OP_LOADI, 3, 70);
        y.append(1, LockElision.OP_STORE, 3, 4);
        Twins.sameFuture(CHECK, "clearProgram and the same program again", y, Pasts.locked());
    }

    private static void appended(LockElision x, int core, int op, int a, int b, int want) {
        CHECK.due("append(" + core + ", " + op + ", " + a + ", " + b + ")", x.append(core, op, a, b), want);
    }

    private static void refused(Supplier<LockElision> past, int core, int op, int a, int b) {
        String call = "append(" + core + ", " + op + ", " + a + ", " + b + ")";
        Twins.changesNothing(CHECK, call, past, x -> x.append(core, op, a, b), -1);
    }
}
