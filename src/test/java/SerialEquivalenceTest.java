import java.util.ArrayList;
import java.util.Arrays;
import java.util.List;

/**
 * Promise 5, serial equivalence: pokes and completed sections, run one after another in the order in which they ended,
 * give the same memory and results as the interleaved run, and no core speculates while the lock is held.
 */
public final class SerialEquivalenceTest {
    private static final Check CHECK = new Check();
    private static final int RUNS = 2000;
    private static final int CALLS = 400;
    private static final int[] DONE = new int[2];

    private final Choices choices;
    private final LockElision x;
    private final List<List<int[]>> programs = new ArrayList<>();
    private final int[] serial = new int[64];
    private int executedUnderLock = 0;

    private SerialEquivalenceTest(int run) {
        choices = new Choices(run + 1000000L);
        x = new LockElision(choices.from(1, 2, 3, 4, 4), 1 + choices.below(4), choices.below(5));
        for (int core = 0; core < 4; core++) {
            programs.add(new ArrayList<>());
        }
    }

    public static void main(String[] args) {
        for (int run = 0; run < RUNS && !CHECK.anyWrong(); run++) {
            new SerialEquivalenceTest(run).run(run);
        }
        CHECK.due("many sections were elided", DONE[0] > 5 * RUNS, true);
        CHECK.due("many sections took the lock", DONE[1] > 5 * RUNS, true);
        CHECK.end();
    }

    private void run(int run) {
        int core = 0;
        for (int call = 0; call < CALLS && !CHECK.anyWrong(); call++) {
            // A core often goes on for a few steps, else hardly a section would reach its commit.
            core = choices.oneIn(3) ? choices.below(4) : core;
            if (x.state(core) == LockElision.STATE_IDLE) {
                enterOrPoke(core);
            } else {
                step(core, "run " + run + ", call " + call + ", ");
            }
            memory("run " + run + ", call " + call + ", ");
        }
    }

    private void enterOrPoke(int core) {
        int addr = choices.below(64);
        int value = choices.below(100);
        if (choices.oneIn(3) && x.poke(addr, value)) {
            serial[addr] = value;
        }
        if (programs.get(core).isEmpty() || choices.oneIn(3)) {
            x.clearProgram(core);
            programs.get(core).clear();
            int length = 1 + choices.below(choices.oneIn(6) ? 16 : 7);
            for (int i = 0; i < length; i++) {
                int[] one = choices.instruction();
                x.append(core, one[0], one[1], one[2]);
                programs.get(core).add(one);
            }
        }
        x.enter(core);
    }

    private void step(int core, String where) {
        boolean underLock = x.lockOwner() == core;
        int answer = x.step(core);
        if (answer == LockElision.STEP_ACQUIRED) {
            executedUnderLock = 0;
        }
        if (underLock && answer == LockElision.STEP_EXECUTED) {
            executedUnderLock++;
        }
        if (answer == LockElision.STEP_COMMITTED || answer == LockElision.STEP_RELEASED) {
            DONE[answer - LockElision.STEP_COMMITTED]++;
            int[] registers = runAlone(programs.get(core), serial, Integer.MAX_VALUE);
            for (int r = 0; r < 4; r++) {
                CHECK.due(where + "result(" + core + ", " + r + ")", x.result(core, r), registers[r]);
            }
        }
    }

    private void memory(String where) {
        int[] want = serial.clone();
        int owner = x.lockOwner();
        if (owner != -1) {
            runAlone(programs.get(owner), want, executedUnderLock);
        }
        int[] got = new int[64];
        Arrays.setAll(got, x::peek);
        CHECK.same(where + "memory", got, want);
        for (int core = 0; core < 4; core++) {
            boolean speculates = x.state(core) == LockElision.STATE_SPEC;
            CHECK.due(where + "core " + core + " in SPEC under the lock", owner != -1 && speculates, false);
            CHECK.due(where + "core " + core + " LOCKED", x.state(core) == LockElision.STATE_LOCKED, owner == core);
        }
    }

    /** Runs the program directly on this memory, for at most so many instructions, and answers its registers. */
    private static int[] runAlone(List<int[]> program, int[] memory, int most) {
        int[] r = new int[4];
        int pc = 0;
        for (int done = 0; done < most && pc < program.size(); done++) {
            int op = program.get(pc)[0];
            int a = program.get(pc)[1];
            int b = program.get(pc)[2];
            int by = 1;
            switch (op) {
                case LockElision.OP_LOADI -> r[a] = b;
                case LockElision.OP_LOAD -> r[a] = memory[b];
                case LockElision.OP_STORE -> memory[b] = r[a];
                case LockElision.OP_ADD -> r[a] += r[b];
                case LockElision.OP_ADDI -> r[a] += b;
                case LockElision.OP_LOADX -> r[a] = memory[r[b] & 63];
                case LockElision.OP_STOREX -> memory[r[b] & 63] = r[a];
                case LockElision.OP_JNZ -> by = r[a] != 0 ? b : 1;
                default -> { }
            }
            pc += by;
        }
        return r;
    }
}
