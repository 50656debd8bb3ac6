/** Promise 5, the general rules for step. */
public final class GeneralRulesTest {
    private static final Check CHECK = new Check();

    public static void main(String[] args) {
        CHECK.sentence("Cores other than X change only through the aborts described above.", GeneralRulesTest::othersAreLeftAlone);
        CHECK.sentence("An abort never changes memory or results.", GeneralRulesTest::abortsKeepMemoryAndResults);
        CHECK.sentence("Because `OP_JNZ` jumps forward by at least 1 and never past the length, pc only grows within a run"
                + " until an abort or a begin resets it.", GeneralRulesTest::pcOnlyGrows);
        CHECK.end();
    }

    /** In long runs, each step either leaves another core as it was or takes it out of SPEC with one abort more. */
    private static void othersAreLeftAlone() {
        for (int run = 0; run < 200; run++) {
            Choices choices = new Choices(run + 5000L);
            LockElision x = new LockElision(4, 4, choices.below(4));
            for (int call = 0; call < 300; call++) {
                int core = choices.below(4);
                enterIfIdle(x, core, choices);
                int[] before = Sections.seen(x);
                x.step(core);
                int[] after = Sections.seen(x);
                for (int other = 0; other < 4; other++) {
                    if (other != core) {
                        keptOrAborted(before, after, other);
                    }
                }
            }
        }
    }

    private static void enterIfIdle(LockElision x, int core, Choices choices) {
        if (x.state(core) != LockElision.STATE_IDLE) {
            return;
        }
        x.clearProgram(core);
        for (int i = 0; i < 6; i++) {
            int[] one = choices.instruction();
            x.append(core, one[0], one[1], one[2]);
        }
        x.enter(core);
    }

    private static void keptOrAborted(int[] before, int[] after, int core) {
        int at = Sections.part(core);
        int[] want = before.clone();
        if (after[at + Sections.ATTEMPTS] != before[at + Sections.ATTEMPTS]) {
            CHECK.due("the state of an aborted core", before[at + Sections.STATE], LockElision.STATE_SPEC);
            CHECK.due("attempts", after[at + Sections.ATTEMPTS], before[at + Sections.ATTEMPTS] + 1);
            Sections.fallen(want, core, after[at + Sections.CAUSE], after[at + Sections.STATE]);
            want[at + Sections.ATTEMPTS] = after[at + Sections.ATTEMPTS];
        }
        for (int i = at; i < Sections.part(core + 1); i++) {
            CHECK.due("what another core shows at " + (i - at), after[i], want[i]);
        }
    }

    /** In long runs, a step that aborts a core, the stepping one or another, writes no word of memory and no result. */
    private static void abortsKeepMemoryAndResults() {
        for (int run = 0; run < 200; run++) {
            Choices choices = new Choices(run + 9000L);
            LockElision x = new LockElision(2 + choices.below(3), 4, choices.below(4));
            for (int call = 0; call < 300; call++) {
                int core = choices.below(4);
                enterIfIdle(x, core, choices);
                int[] before = Sections.seen(x);
                x.step(core);
                int[] after = Sections.seen(x);
                if (abortsIn(after) != abortsIn(before)) {
                    sameMemoryAndResults(before, after);
                }
            }
        }
    }

    private static int abortsIn(int[] seen) {
        int sum = 0;
        for (int core = 0; core < 4; core++) {
            sum += seen[Sections.part(core) + Sections.COUNT + LockElision.COUNT_ABORTS];
        }
        return sum;
    }

    private static void sameMemoryAndResults(int[] before, int[] after) {
        for (int addr = 0; addr < 64; addr++) {
            int at = Sections.MEMORY + addr;
            CHECK.due("peek(" + addr + ") after an abort", after[at], before[at]);
        }
        for (int core = 0; core < 4; core++) {
            for (int r = 0; r < 4; r++) {
                int at = Sections.part(core) + Sections.RESULT + r;
                CHECK.due("result(" + core + ", " + r + ") after an abort", after[at], before[at]);
            }
        }
    }

    /** Programs of jumps alone, taken or not: pc grows with every executed step and never passes the length. */
    private static void pcOnlyGrows() {
        for (int run = 0; run < 500; run++) {
            Choices choices = new Choices(run + 7000L);
            int length = 1 + choices.below(16);
            int[][] program = new int[length][];
            program[0] = Sections.loadi(choices.below(4), choices.from(-1, 1, Integer.MIN_VALUE));
            for (int i = 1; i < length; i++) {
                program[i] = Sections.jnz(choices.below(4), choices.oneIn(3) ? 1 + choices.below(16) : 1 + choices.below(3));
            }
            LockElision x = new LockElision(4, 4, 2);
            Sections.speculate(x, 0, 0, program);
            int pc = 0;
            while (pc < length) {
                CHECK.due("step", x.step(0), LockElision.STEP_EXECUTED);
                boolean grew = x.pc(0) > pc && x.pc(0) <= length;
                if (!CHECK.due("pc " + x.pc(0) + " after " + pc + " of " + length + " grew", grew, true)) {
                    return;
                }
                pc = x.pc(0);
            }
            CHECK.due("commit", x.step(0), LockElision.STEP_COMMITTED);
        }
        pcIsResetByAnAbort();
    }

    private static void pcIsResetByAnAbort() {
        LockElision x = new LockElision(4, 4, 2);
        Sections.speculate(x, 0, 2, Sections.load(0, 0), Sections.loadi(1, 1), Sections.loadi(1, 2));
        CHECK.due("pc before the abort", x.pc(0), 2);
        Sections.speculate(x, 1, 1, Sections.store(0, 0));
        CHECK.due("pc after the abort", x.pc(0), 0);
    }
}
