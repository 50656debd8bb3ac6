/** Promises 1 to 17: long runs of calls, right and wrong ones, beside the model; all is compared after every call. */
public final class ModelTest {
    private static final Check CHECK = new Check();
    private static final int RUNS = 1500;
    private static final int CALLS = 300;
    /** How often each step answer, -1..7, and each cause, 0..4, was met: a run that misses one proves little. */
    private static final int[] ANSWERS = new int[9];
    private static final int[] CAUSES = new int[5];

    private final Choices choices;
    private final LockElision real;
    private final Model model;

    private ModelTest(int run) {
        choices = new Choices(run);
        int ways = parameter();
        int sets = parameter();
        int retries = choices.oneIn(8) ? choices.from(-3, 8, 100, Integer.MIN_VALUE, Integer.MAX_VALUE) : choices.below(4);
        real = new LockElision(ways, sets, retries);
        model = new Model(ways, sets, retries);
    }

    public static void main(String[] args) {
        for (int run = 0; run < RUNS && !CHECK.anyWrong(); run++) {
            new ModelTest(run).run(run);
        }
        for (int answer = -1; answer <= 7; answer++) {
            CHECK.due("step answer " + answer + " was met often", ANSWERS[answer + 1] > RUNS, true);
        }
        for (int cause = 0; cause <= 4; cause++) {
            CHECK.due("cause " + cause + " was met often", CAUSES[cause] > RUNS, true);
        }
        CHECK.end();
    }

    private int parameter() {
        return choices.oneIn(8) ? choices.from(0, -1, 5, 9, Integer.MIN_VALUE, Integer.MAX_VALUE) : 1 + choices.below(4);
    }

    private void run(int run) {
        for (int core = 0; core < 4; core++) {
            program(core, "run " + run + ", at start, ");
        }
        for (int call = 0; call < CALLS && !CHECK.anyWrong(); call++) {
            String where = "run " + run + ", call " + call + ", ";
            oneCall(where);
            if (choices.oneIn(10)) {
                lookOutside();
            }
            CHECK.same(where + "all", Sections.seen(real), model.seen());
        }
    }

    private void oneCall(String where) {
        int core = choices.oneIn(40) ? choices.from(Check.NOT_0_TO_3) : choices.below(4);
        int kind = choices.below(24);
        boolean idle = core >= 0 && core < 4 && model.cores[core].state == Model.IDLE;
        if (kind == 0) {
            int op = choices.from(-1, 9, 0, 1, 2, 3, 5, 6, 8, Integer.MIN_VALUE);
            append(where, core, op, choices.below(6) - 1, choices.from(-1, 0, 1, 3, 4, 16, 17, 63, 64));
        } else if (kind == 1) {
            CHECK.due(where + "clearProgram(" + core + ")", real.clearProgram(core), model.clearProgram(core));
        } else if (kind == 2) {
            int addr = choices.below(70) - 3;
            int value = choices.below(200) - 100;
            CHECK.due(where + "poke(" + addr + ", " + value + ")", real.poke(addr, value), model.poke(addr, value));
        } else if (kind == 3 && idle) {
            program(core, where);
        } else if (kind == 4 || idle && kind < 20) {
            CHECK.due(where + "enter(" + core + ")", real.enter(core), model.enter(core));
        } else {
            int want = model.step(core);
            CHECK.due(where + "step(" + core + ")", real.step(core), want);
            ANSWERS[want + 1]++;
            for (Model.Core one : model.cores) {
                CAUSES[one.cause]++;
            }
        }
    }

    private void program(int core, String where) {
        CHECK.due(where + "clearProgram(" + core + ")", real.clearProgram(core), model.clearProgram(core));
        int length = choices.oneIn(6) ? 16 : 1 + choices.below(8);
        for (int i = 0; i < length; i++) {
            int[] one = choices.instruction();
            append(where, core, one[0], one[1], one[2]);
        }
    }

    private void append(String where, int core, int op, int a, int b) {
        String call = where + "append(" + core + ", " + op + ", " + a + ", " + b + ")";
        CHECK.due(call, real.append(core, op, a, b), model.append(core, op, a, b));
    }

    /** Looks out of range are part of the run because they too must change nothing. */
    private void lookOutside() {
        int wrong = choices.from(Check.NOT_0_TO_3);
        int core = choices.from(0, 1, 2, 3, wrong);
        int other = core == wrong ? 0 : choices.from(-1, 17, 64, Integer.MIN_VALUE, Integer.MAX_VALUE);
        CHECK.due("peek out of range", real.peek(choices.from(-1, 64, Integer.MIN_VALUE)), 0);
        CHECK.due("state out of range", real.state(wrong), -1);
        CHECK.due("pc out of range", real.pc(wrong), -1);
        CHECK.due("attempts out of range", real.attempts(wrong), -1);
        CHECK.due("lastCause out of range", real.lastCause(wrong), -1);
        CHECK.due("abortCode out of range", real.abortCode(wrong), 0);
        CHECK.due("reg out of range", real.reg(core, other), 0);
        CHECK.due("result out of range", real.result(core, other), 0);
        CHECK.due("count out of range", real.count(core, other), -1);
        CHECK.due("lineState out of range", real.lineState(core, other), -1);
    }
}
