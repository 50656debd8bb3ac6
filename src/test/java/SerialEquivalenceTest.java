import java.util.ArrayList;
import java.util.Arrays;
import java.util.List;

/**
 * Promise 5, serial equivalence: pokes and completed sections, run one after another in the order in which they ended,
 * give the same memory and results as the interleaved run.
 */
public final class SerialEquivalenceTest {
    private static final Check CHECK = new Check();
    private static final int RUNS = 1000;
    private static final int CALLS = 400;

    /** What the long runs look at. */
    private enum Part { FREE_MEMORY, LOCKED_MEMORY, RESULTS }

    private final Choices choices;
    private final LockElision x;
    private final Part part;
    private final List<List<int[]>> programs = new ArrayList<>();
    private final int[] serial = new int[64];
    private final int[] done = new int[2];
    private int executedUnderLock = 0;
    private boolean right = true;

    private SerialEquivalenceTest(int run, Part part) {
        this.part = part;
        choices = new Choices(run + 1000000L);
        x = new LockElision(choices.from(1, 2, 3, 4, 4), 1 + choices.below(4), choices.below(5));
        for (int core = 0; core < 4; core++) {
            programs.add(new ArrayList<>());
        }
    }

    public static void main(String[] args) {
        CHECK.sentence("For every sequence of calls on a fresh object, take, in call order, the successful pokes and the"
                + " completions.", SerialEquivalenceTest::onlySuccessfulPokesAndCompletions);
        CHECK.sentence("A completion is a step call answering `STEP_COMMITTED` or `STEP_RELEASED`, taken together with the"
                + " program its core had at that moment.", SerialEquivalenceTest::theProgramOfThatMoment);
        CHECK.sentence("Replay them serially, starting from all-zero memory:", SerialEquivalenceTest::zeroWithoutCalls);
        CHECK.sentence("apply each poke as a write;", SerialEquivalenceTest::pokesAndStoresInOrder);
        CHECK.sentence("run each completion's program alone, from pc 0 with r0..r3 = 0, directly on memory (`OP_XABORT` only"
                + " advancing pc), until pc equals the program length.", SerialEquivalenceTest::eachRunStartsAnew);
        CHECK.sentence("Then, whenever the lock is free (no core is LOCKED), `peek(addr)` equals this serial memory for every"
                + " address 0..63.", () -> longRuns(Part.FREE_MEMORY));
        CHECK.sentence("While a core is LOCKED, memory also holds the stores that core has already executed.",
                () -> longRuns(Part.LOCKED_MEMORY));
        CHECK.sentence("After each completion, `result(core, r)` for r in 0..3 equals the final registers of that section's"
                + " serial run.", () -> longRuns(Part.RESULTS));
        CHECK.sentence("Every run is thus equivalent to the serial execution of its completed sections, each once, in"
                + " completion order, whether they were elided or ran under the lock.",
                SerialEquivalenceTest::eachOnceInCompletionOrder);
        CHECK.end();
    }

    /** Refused pokes, stores of aborted tries and stores of a section that has not ended leave no trace. */
    private static void onlySuccessfulPokesAndCompletions() {
        LockElision x = new LockElision(4, 4, 7);
        CHECK.due("a poke", x.poke(0, 1), true);
        Sections.speculate(x, 0, 2, Sections.loadi(0, 5), Sections.store(0, 0));
        CHECK.due("a poke beside it", x.poke(0, 2), false);
        CHECK.due("peek(0) beside a section that has not ended", x.peek(0), 1);
        Sections.speculate(x, 1, 1, Sections.load(0, 0));
        CHECK.due("peek(0) after an aborted try", x.peek(0), 1);
        CHECK.due("commit of the other", x.step(1), LockElision.STEP_COMMITTED);
        CHECK.due("its result", x.result(1, 0), 1);
        CHECK.due("a poke between the tries", x.poke(63, 4), true);
        x.step(0);
        CHECK.due("commit of the second try", Sections.runOn(x, 0), LockElision.STEP_COMMITTED);
        CHECK.due("peek(0) at the end", x.peek(0), 5);
        CHECK.due("peek(63) at the end", x.peek(63), 4);
    }

    private static void theProgramOfThatMoment() {
        LockElision x = new LockElision(4, 4, 7);
        Sections.speculate(x, 0, 2, Sections.loadi(0, 5), Sections.store(0, 0));
        CHECK.due("append before the end", x.append(0, LockElision.OP_STORE, 0, 1), -1);
        CHECK.due("commit", x.step(0), LockElision.STEP_COMMITTED);
        CHECK.due("append after the end", x.append(0, LockElision.OP_STORE, 0, 1), 3);
        CHECK.due("step after the end", x.step(0), LockElision.STEP_IDLE);
        CHECK.due("peek(0)", x.peek(0), 5);
        CHECK.due("peek(1)", x.peek(1), 0);
        x.clearProgram(0);
        CHECK.due("peek(0) when the program was cleared", x.peek(0), 5);
        CHECK.due("result(0, 0) when the program was cleared", x.result(0, 0), 5);
    }

    /** The empty run, and one of refused calls alone. */
    private static void zeroWithoutCalls() {
        LockElision x = new LockElision(4, 4, 7);
        x.poke(64, 1);
        x.poke(-1, 1);
        x.enter(0);
        x.step(0);
        x.step(4);
        for (int addr = 0; addr < 64; addr++) {
            CHECK.due("peek(" + addr + ") of a new object", new LockElision(4, 4, 7).peek(addr), 0);
            CHECK.due("peek(" + addr + ") after refused calls", x.peek(addr), 0);
        }
    }

    /** The later of a poke and a completed store stands, at the first and the last address. */
    private static void pokesAndStoresInOrder() {
        for (int addr : new int[] {0, 63}) {
            LockElision x = new LockElision(4, 4, 7);
            CHECK.due("the first poke", x.poke(addr, 1), true);
            CHECK.due("the second poke", x.poke(addr, 2), true);
            CHECK.due("peek(" + addr + ") after two pokes", x.peek(addr), 2);
            Sections.speculate(x, 1, 2, Sections.loadi(0, 3), Sections.store(0, addr));
            CHECK.due("commit", x.step(1), LockElision.STEP_COMMITTED);
            CHECK.due("peek(" + addr + ") after the store", x.peek(addr), 3);
            CHECK.due("the third poke", x.poke(addr, Integer.MIN_VALUE), true);
            CHECK.due("peek(" + addr + ") after the third poke", x.peek(addr), Integer.MIN_VALUE);
        }
    }

    /** The same program over and over, by turns elided and after an explicit abort that a flag lets pass or not. */
    private static void eachRunStartsAnew() {
        LockElision x = new LockElision(4, 4, 7);
        for (int n = 1; n <= 6; n++) {
            Sections.must(x.poke(63, n % 2));
            Sections.start(x, 2, Sections.load(3, 63), Sections.jnz(3, 2), Sections.xabort(1), Sections.load(0, 0),
                    Sections.addi(0, 1), Sections.addi(1, 1), Sections.store(0, 0));
            for (int i = 0; i < 20 && x.state(2) != LockElision.STATE_IDLE; i++) {
                x.step(2);
            }
            CHECK.due("peek(0) after section " + n, x.peek(0), n);
            CHECK.due("result(2, 0) after section " + n, x.result(2, 0), n);
            CHECK.due("result(2, 1) after section " + n, x.result(2, 1), 1);
            CHECK.due("commits after section " + n, x.count(2, LockElision.COUNT_ELIDED), (n + 1) / 2);
            CHECK.due("releases after section " + n, x.count(2, LockElision.COUNT_LOCKED), n / 2);
        }
    }

    /** Four cores add 1 to the same word, stepping in every order; the word counts the completed sections. */
    private static void eachOnceInCompletionOrder() {
        for (int run = 0; run < 300; run++) {
            Choices order = new Choices(run + 400L);
            LockElision x = new LockElision(4, 4, order.below(8));
            for (int core = 0; core < 4; core++) {
                Sections.start(x, core, Sections.load(0, 32), Sections.addi(0, 1), Sections.store(0, 32));
            }
            int completions = 0;
            for (int call = 0; call < 400; call++) {
                int core = order.below(4);
                int answer = x.step(core);
                if (answer == LockElision.STEP_COMMITTED || answer == LockElision.STEP_RELEASED) {
                    completions++;
                    CHECK.due("result of completion " + completions, x.result(core, 0), completions);
                }
                if (x.lockOwner() == -1) {
                    CHECK.due("peek(32) after " + completions + " completions", x.peek(32), completions);
                }
            }
            CHECK.due("completions", completions, 4);
        }
    }

    private static void longRuns(Part part) {
        int[] all = new int[2];
        for (int number = 0; number < RUNS; number++) {
            SerialEquivalenceTest one = new SerialEquivalenceTest(number, part);
            one.run(number);
            if (!one.right) {
                return;
            }
            all[0] += one.done[0];
            all[1] += one.done[1];
        }
        CHECK.due("many sections were elided", all[0] > 5 * RUNS, true);
        CHECK.due("many sections took the lock", all[1] > 5 * RUNS, true);
    }

    private void run(int run) {
        int core = 0;
        for (int call = 0; call < CALLS && right; call++) {
            // A core often goes on for a few steps, else hardly a section would reach its commit.
            core = choices.oneIn(3) ? choices.below(4) : core;
            String where = "run " + run + ", call " + call + ", ";
            if (x.state(core) == LockElision.STATE_IDLE) {
                enterOrPoke(core);
            } else {
                step(core, where);
            }
            memory(where);
        }
    }

    private void enterOrPoke(int core) {
        int addr = choices.below(64);
        int value = choices.below(100);
        if (choices.oneIn(3) && x.poke(addr, value)) {
            serial[addr] = value;
        }
        if (programs.get(core).isEmpty() || choices.oneIn(3)) {
            x.clearProgram(core);
            programs.get(core).clear();
            int length = 1 + choices.below(choices.oneIn(6) ? 16 : 7);
            for (int i = 0; i < length; i++) {
                int[] one = choices.instruction();
                x.append(core, one[0], one[1], one[2]);
                programs.get(core).add(one);
            }
        }
        x.enter(core);
    }

    private void step(int core, String where) {
        boolean underLock = x.lockOwner() == core;
        int answer = x.step(core);
        if (answer == LockElision.STEP_ACQUIRED) {
            executedUnderLock = 0;
        }
        if (underLock && answer == LockElision.STEP_EXECUTED) {
            executedUnderLock++;
        }
        if (answer == LockElision.STEP_COMMITTED || answer == LockElision.STEP_RELEASED) {
            done[answer - LockElision.STEP_COMMITTED]++;
            int[] registers = runAlone(programs.get(core), serial, Integer.MAX_VALUE);
            for (int r = 0; r < 4 && part == Part.RESULTS; r++) {
                right &= CHECK.due(where + "result(" + core + ", " + r + ")", x.result(core, r), registers[r]);
            }
        }
    }

    private void memory(String where) {
        int owner = x.lockOwner();
        if (part != (owner == -1 ? Part.FREE_MEMORY : Part.LOCKED_MEMORY)) {
            return;
        }
        int[] want = serial.clone();
        if (owner != -1) {
            runAlone(programs.get(owner), want, executedUnderLock);
        }
        int[] got = new int[64];
        Arrays.setAll(got, x::peek);
        right &= CHECK.same(where + "memory", got, want);
    }

    /** Runs the program directly on this memory, for at most so many instructions, and answers its registers. */
    private static int[] runAlone(List<int[]> program, int[] memory, int most) {
        int[] r = new int[4];
        int pc = 0;
        for (int done = 0; done < most && pc < program.size(); done++) {
            int op = program.get(pc)[0];
            int a = program.get(pc)[1];
            int b = program.get(pc)[2];
            int by = 1;
            switch (op) {
                case LockElision.OP_LOADI -> r[a] = b;
                case LockElision.OP_LOAD -> r[a] = memory[b];
                case LockElision.OP_STORE -> memory[b] = r[a];
                case LockElision.OP_ADD -> r[a] += r[b];
                case LockElision.OP_ADDI -> r[a] += b;
                case LockElision.OP_LOADX -> r[a] = memory[r[b] & 63];
                case LockElision.OP_STOREX -> memory[r[b] & 63] = r[a];
                case LockElision.OP_JNZ -> by = r[a] != 0 ? b : 1;
                default -> { }
            }
            pc += by;
        }
        return r;
    }
}
