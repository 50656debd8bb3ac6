/** Promise 2 (append) and promise 3 (clearProgram). */
public final class ProgramTest {
    private static final Check CHECK = new Check();

    public static void main(String[] args) {
        appendRanges();
        appendLengths();
        appendOnlyWhileIdle();
        appendChangesOnlyThatProgram();
        appendedInOrder();
        clearAnswers();
        clearOnlyWhileIdle();
        clearChangesOnlyThatProgram();
        CHECK.end();
    }

    private static void appendRanges() {
        int least = Integer.MIN_VALUE;
        int most = Integer.MAX_VALUE;
        int[][] allowed = {{least, most}, {0, 63}, {0, 63}, {0, 3}, {least, most}, {0, 3}, {0, 3}, {least, most}, {1, 16}};
        int[] bs = {least, least + 1, -64, -17, -2, -1, 0, 1, 2, 3, 4, 5, 15, 16, 17, 18, 31, 62, 63, 64, 65, 100,
            most - 1, most};
        for (int op = 0; op <= 8; op++) {
            for (int b : bs) {
                boolean fits = b >= allowed[op][0] && b <= allowed[op][1];
                for (int a = 0; a < 4; a++) {
                    appendOnNew(op, a, b, fits ? 1 : -1);
                }
                for (int a : Check.NOT_0_TO_3) {
                    appendOnNew(op, a, b, -1);
                }
            }
        }
        for (int op : new int[] {-1, 9, 10, -9, 16, least, most}) {
            for (int b : bs) {
                appendOnNew(op, 0, b, -1);
            }
        }
        for (int core : Check.NOT_0_TO_3) {
            LockElision x = new LockElision(2, 2, 2);
            CHECK.due("append(" + core + ", 0, 0, 0)", x.append(core, 0, 0, 0), -1);
            for (int other = 0; other < 4; other++) {
                CHECK.due("enter after append on core " + core, x.enter(other), false);
            }
        }
    }

    private static void appendOnNew(int op, int a, int b, int want) {
        LockElision x = new LockElision(2, 2, 2);
        int[] before = Sections.seen(x);
        CHECK.due("append(0, " + op + ", " + a + ", " + b + ")", x.append(0, op, a, b), want);
        CHECK.same("all but the program after append", Sections.seen(x), before);
        CHECK.due("enter after append(0, " + op + ", " + a + ", " + b + ")", x.enter(0), want == 1);
    }

    private static void appendLengths() {
        LockElision x = new LockElision(2, 2, 2);
        for (int core = 0; core < 4; core++) {
            for (int length = 1; length <= 16; length++) {
                CHECK.due("refused append at length " + length, x.append(core, 9, 0, 0), -1);
                CHECK.due("append number " + length, x.append(core, LockElision.OP_ADDI, 0, length + core), length);
            }
            CHECK.due("append number 17", x.append(core, LockElision.OP_ADDI, 0, 1), -1);
            CHECK.due("append number 17 again", x.append(core, LockElision.OP_LOADI, 0, 1), -1);
        }
        for (int core = 0; core < 4; core++) {
            CHECK.due("enter(" + core + ")", x.enter(core), true);
            x.step(core);
            Sections.steps(x, core, 16);
            CHECK.due("commit of 16 instructions", x.step(core), LockElision.STEP_COMMITTED);
            CHECK.due("sum of core " + core, x.result(core, 0), 136 + 16 * core);
        }
    }

    private static void appendOnlyWhileIdle() {
        LockElision x = new LockElision(2, 2, 2);
        x.append(0, LockElision.OP_XABORT, 0, 0);
        x.enter(0);
        appendRefused(x, "READY");
        x.step(0);
        appendRefused(x, "SPEC");
        x.step(0);
        appendRefused(x, "WAITLOCK");
        x.step(0);
        appendRefused(x, "LOCKED");
        x.step(0);
        CHECK.due("the program still has one instruction", x.step(0), LockElision.STEP_RELEASED);
        CHECK.due("append when IDLE again", x.append(0, LockElision.OP_LOADI, 0, 1), 2);
    }

    private static void appendRefused(LockElision x, String state) {
        int[] before = Sections.seen(x);
        CHECK.due("append in " + state, x.append(0, LockElision.OP_LOADI, 0, 1), -1);
        CHECK.same("append in " + state, Sections.seen(x), before);
        CHECK.due("append on an idle core beside " + state, x.append(1, LockElision.OP_LOADI, 0, 1) > 0, true);
    }

    private static void appendChangesOnlyThatProgram() {
        LockElision x = finishedOnce();
        int[] before = Sections.seen(x);
        CHECK.due("append to the finished program", x.append(2, LockElision.OP_LOADI, 1, 9), 4);
        CHECK.same("all but the program after append", Sections.seen(x), before);
    }

    private static void appendedInOrder() {
        LockElision x = new LockElision(4, 4, 2);
        Sections.start(x, 3, Sections.loadi(0, 5), Sections.addi(0, 6), Sections.loadi(1, 7), Sections.add(1, 0));
        x.step(3);
        int[][] want = {{5, 0}, {11, 0}, {11, 7}, {11, 18}};
        for (int[] one : want) {
            x.step(3);
            CHECK.due("r0 in program order", x.reg(3, 0), one[0]);
            CHECK.due("r1 in program order", x.reg(3, 1), one[1]);
        }
        CHECK.due("end of the program", x.step(3), LockElision.STEP_COMMITTED);
    }

    private static void clearAnswers() {
        LockElision x = new LockElision(2, 2, 2);
        for (int core : Check.NOT_0_TO_3) {
            x.append(0, LockElision.OP_LOADI, 0, 1);
            int[] before = Sections.seen(x);
            CHECK.due("clearProgram(" + core + ")", x.clearProgram(core), false);
            CHECK.same("clearProgram(" + core + ")", Sections.seen(x), before);
        }
        CHECK.due("the program after refused clears", x.append(0, 0, 0, 1), Check.NOT_0_TO_3.length + 1);
        for (int core = 0; core < 4; core++) {
            CHECK.due("clearProgram(" + core + ")", x.clearProgram(core), true);
            CHECK.due("clearProgram(" + core + ") when empty", x.clearProgram(core), true);
            CHECK.due("enter after the clear", x.enter(core), false);
            CHECK.due("append after the clear", x.append(core, LockElision.OP_LOADI, 0, 1), 1);
        }
    }

    private static void clearOnlyWhileIdle() {
        LockElision x = new LockElision(2, 2, 2);
        x.append(1, LockElision.OP_XABORT, 0, 0);
        x.append(1, LockElision.OP_LOADI, 0, 3);
        x.enter(1);
        clearRefused(x, "READY");
        x.step(1);
        clearRefused(x, "SPEC");
        x.step(1);
        clearRefused(x, "WAITLOCK");
        x.step(1);
        clearRefused(x, "LOCKED");
        Sections.steps(x, 1, 2);
        clearRefused(x, "LOCKED at the end");
        CHECK.due("the program still has two instructions", x.step(1), LockElision.STEP_RELEASED);
        CHECK.due("its result", x.result(1, 0), 3);
        CHECK.due("clearProgram when IDLE again", x.clearProgram(1), true);
    }

    private static void clearRefused(LockElision x, String state) {
        int[] before = Sections.seen(x);
        CHECK.due("clearProgram in " + state, x.clearProgram(1), false);
        CHECK.same("clearProgram in " + state, Sections.seen(x), before);
        CHECK.due("clearProgram of an idle core beside " + state, x.clearProgram(0), true);
    }

    private static void clearChangesOnlyThatProgram() {
        LockElision x = finishedOnce();
        x.append(1, LockElision.OP_LOADI, 0, 1);
        int[] before = Sections.seen(x);
        CHECK.due("clearProgram of the finished core", x.clearProgram(2), true);
        CHECK.same("all but the program after clearProgram", Sections.seen(x), before);
        CHECK.due("the other core's program", x.append(1, LockElision.OP_LOADI, 0, 1), 2);
    }

    /** Core 2 has run three instructions under the lock and keeps a cause, a code, registers and results. */
    private static LockElision finishedOnce() {
        LockElision x = new LockElision(2, 2, 2);
        Sections.start(x, 2, Sections.xabort(44), Sections.loadi(3, 8), Sections.store(3, 21));
        x.step(2);
        x.step(2);
        x.step(2);
        Sections.steps(x, 2, 3);
        CHECK.due("release", x.step(2), LockElision.STEP_RELEASED);
        CHECK.due("pc is kept", x.pc(2), 3);
        return x;
    }
}
