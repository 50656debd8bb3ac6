/** Promise 5, the ends of a section: the commit and the release. */
public final class CompletionTest {
    private static final Check CHECK = new Check();
    private static final String RESULTS = "Results = r0..r3.";
    private static final String KEPT = "The state becomes IDLE. pc, registers, attempts, last cause and abort code are kept.";

    public static void main(String[] args) {
        CHECK.sentence("**SPEC with pc = program length (commit).**", CompletionTest::commitAtTheLength);
        CHECK.sentence("Every buffered word is written to memory, in ascending address order.",
                CompletionTest::commitWritesEveryBufferedWord);
        CHECK.sentence("The buffer is emptied and the footprint cleared.", CompletionTest::commitEmptiesBufferAndFootprint);
        CHECK.sentence("Commit: " + RESULTS, CompletionTest::resultsOfACommit);
        CHECK.sentence("The elided counter + 1.", CompletionTest::elidedCounter);
        CHECK.sentence("Commit: " + KEPT, CompletionTest::keptByACommit);
        CHECK.sentence("**LOCKED with pc = length (release).**", CompletionTest::releaseAtTheLength);
        CHECK.sentence("The lock becomes free.", CompletionTest::releaseFreesTheLock);
        CHECK.sentence("Release: " + RESULTS, CompletionTest::resultsOfARelease);
        CHECK.sentence("The locked counter + 1.", CompletionTest::lockedCounter);
        CHECK.sentence("Release: " + KEPT, CompletionTest::keptByARelease);
        CHECK.end();
    }

    /** Programs of every length, 1 to 16: not a step earlier, not a step later. */
    private static void commitAtTheLength() {
        for (int length = 1; length <= 16; length++) {
            LockElision x = new LockElision(4, 4, 2);
            enterAdding(x, length);
            CHECK.due("begin", x.step(2), LockElision.STEP_BEGAN);
            for (int i = 0; i < length; i++) {
                CHECK.due("instruction " + i + " of " + length, x.step(2), LockElision.STEP_EXECUTED);
            }
            CHECK.due("state at the end", x.state(2), LockElision.STATE_SPEC);
            CHECK.due("commit", x.step(2), LockElision.STEP_COMMITTED);
            CHECK.due("all were run", x.result(2, 1), length);
            CHECK.due("a step more", x.step(2), LockElision.STEP_IDLE);
        }
    }

    private static void enterAdding(LockElision x, int length) {
        for (int i = 0; i < length; i++) {
            Sections.must(x.append(2, LockElision.OP_ADDI, 1, 1) == i + 1);
        }
        Sections.must(x.enter(2));
    }

    /** No buffered word, one word twice, and as many as a program can store, the first and the last address among them. */
    private static void commitWritesEveryBufferedWord() {
        commitWrites(new int[0]);
        commitWrites(new int[] {17, 17, 17});
        commitWrites(new int[] {0});
        commitWrites(new int[] {63});
        commitWrites(new int[] {63, 0, 62, 1, 30, 33, 31, 32});
        commitWrites(new int[] {0, 1, 2, 3, 60, 61, 62, 63});
        commitOfSixteenStores();
    }

    /** Every instruction of the longest program stores a 0 over a poked word. */
    private static void commitOfSixteenStores() {
        LockElision x = new LockElision(4, 4, 2);
        int[] want = new int[64];
        for (int addr = 0; addr < 64; addr++) {
            x.poke(addr, 500 + addr);
            want[addr] = 500 + addr;
        }
        int[][] program = new int[16][];
        for (int i = 0; i < 16; i++) {
            program[i] = Sections.store(i % 4, i < 8 ? 63 - i : i - 8);
        }
        Sections.speculate(x, 1, 16, program);
        memory(x, want, "before the commit");
        CHECK.due("commit", x.step(1), LockElision.STEP_COMMITTED);
        for (int i = 0; i < 8; i++) {
            want[i] = 0;
            want[63 - i] = 0;
        }
        memory(x, want, "after the commit");
    }

    /** The n-th store of the program writes n. */
    private static void commitWrites(int[] addresses) {
        for (int core = 0; core < 4; core++) {
            LockElision x = new LockElision(4, 4, 2);
            int[] want = new int[64];
            for (int addr = 0; addr < 64; addr++) {
                x.poke(addr, 500 + addr);
                want[addr] = 500 + addr;
            }
            int[][] program = new int[Math.max(1, 2 * addresses.length)][];
            program[0] = Sections.addi(0, 1);
            for (int i = 0; i < addresses.length; i++) {
                program[2 * i] = Sections.addi(0, 1);
                program[2 * i + 1] = Sections.store(0, addresses[i]);
            }
            Sections.speculate(x, core, program.length, program);
            memory(x, want, "before the commit");
            CHECK.due("commit", x.step(core), LockElision.STEP_COMMITTED);
            for (int i = 0; i < addresses.length; i++) {
                want[addresses[i]] = i + 1;
            }
            memory(x, want, "after the commit");
        }
    }

    private static void memory(LockElision x, int[] want, String when) {
        for (int addr = 0; addr < 64; addr++) {
            CHECK.due("peek(" + addr + ") " + when, x.peek(addr), want[addr]);
        }
    }

    private static void commitEmptiesBufferAndFootprint() {
        for (int core = 0; core < 4; core++) {
            LockElision x = new LockElision(4, 4, 2);
            for (int addr = 0; addr < 64; addr++) {
                Sections.speculate(x, core, 3, Sections.loadi(0, 9), Sections.store(0, addr), Sections.load(0, 63 - addr));
                CHECK.due("commit", x.step(core), LockElision.STEP_COMMITTED);
                for (int line = 0; line <= 16; line++) {
                    CHECK.due("lineState(" + core + ", " + line + ") after a commit", x.lineState(core, line), 0);
                }
                x.poke(addr, 4);
                Sections.speculate(x, core, 1, Sections.load(1, addr));
                CHECK.due("a load of " + addr + " in the next section", x.reg(core, 1), 4);
                CHECK.due("commit", x.step(core), LockElision.STEP_COMMITTED);
                CHECK.due("peek(" + addr + ") after the next commit", x.peek(addr), 4);
            }
        }
    }

    private static void resultsOfACommit() {
        for (int core = 0; core < 4; core++) {
            LockElision x = new LockElision(4, 4, 2);
            for (int n = 1; n <= 2; n++) {
                Sections.speculate(x, core, 4, fourValues(n));
                CHECK.due("result before the commit", x.result(core, 1), n == 1 ? 0 : -1);
                CHECK.due("commit", x.step(core), LockElision.STEP_COMMITTED);
                resultsAre(x, core, n);
            }
        }
    }

    private static int[][] fourValues(int n) {
        return new int[][] {Sections.loadi(0, Integer.MIN_VALUE + n), Sections.loadi(1, -n), Sections.loadi(2, n),
            Sections.loadi(3, Integer.MAX_VALUE - n)};
    }

    private static void resultsAre(LockElision x, int core, int n) {
        int[] want = {Integer.MIN_VALUE + n, -n, n, Integer.MAX_VALUE - n};
        for (int r = 0; r < 4; r++) {
            CHECK.due("result(" + core + ", " + r + ")", x.result(core, r), want[r]);
        }
    }

    private static void elidedCounter() {
        LockElision x = new LockElision(4, 4, 2);
        for (int n = 1; n <= 40; n++) {
            Sections.speculate(x, 3, 1, Sections.loadi(0, 1));
            CHECK.due("commits before commit " + n, x.count(3, LockElision.COUNT_ELIDED), n - 1);
            CHECK.due("commit", x.step(3), LockElision.STEP_COMMITTED);
            CHECK.due("commits after commit " + n, x.count(3, LockElision.COUNT_ELIDED), n);
            CHECK.due("releases", x.count(3, LockElision.COUNT_LOCKED), 0);
            CHECK.due("aborts", x.count(3, LockElision.COUNT_ABORTS), 0);
        }
    }

    /** The section commits after a conflict, so that there are attempts and a cause to keep. */
    private static void keptByACommit() {
        LockElision x = new LockElision(4, 4, 2);
        Sections.speculate(x, 3, 1, Sections.load(0, 12), Sections.loadi(1, -8), Sections.add(0, 1), Sections.store(0, 13));
        Sections.speculate(x, 0, 2, Sections.loadi(0, 30), Sections.store(0, 12));
        Sections.must(x.step(0) == LockElision.STEP_COMMITTED);
        Sections.must(x.step(3) == LockElision.STEP_BEGAN);
        Sections.steps(x, 3, 4);
        int[] want = Sections.seen(x);
        int at = Sections.part(3);
        CHECK.due("attempts before", want[at + Sections.ATTEMPTS], 1);
        CHECK.due("pc before", want[at + Sections.PC], 4);
        want[Sections.MEMORY + 13] = 22;
        want[at + Sections.STATE] = LockElision.STATE_IDLE;
        want[at + Sections.RESULT] = 22;
        want[at + Sections.RESULT + 1] = -8;
        want[at + Sections.COUNT + LockElision.COUNT_ELIDED] = 1;
        want[at + Sections.LINE + 3] = 0;
        want[at + Sections.LINE + 16] = 0;
        CHECK.due("commit", x.step(3), LockElision.STEP_COMMITTED);
        CHECK.same("a commit", Sections.seen(x), want);
    }

    private static void releaseAtTheLength() {
        for (int length = 1; length <= 15; length++) {
            LockElision x = new LockElision(4, 4, 2);
            Sections.must(x.append(2, LockElision.OP_XABORT, 0, 0) == 1);
            for (int i = 0; i < length; i++) {
                Sections.must(x.append(2, LockElision.OP_ADDI, 1, 1) == i + 2);
            }
            x.enter(2);
            x.step(2);
            x.step(2);
            CHECK.due("acquire", x.step(2), LockElision.STEP_ACQUIRED);
            for (int i = 0; i <= length; i++) {
                CHECK.due("instruction " + i + " of " + (length + 1), x.step(2), LockElision.STEP_EXECUTED);
            }
            CHECK.due("lockOwner() at the end", x.lockOwner(), 2);
            CHECK.due("release", x.step(2), LockElision.STEP_RELEASED);
            CHECK.due("all were run", x.result(2, 1), length);
            CHECK.due("a step more", x.step(2), LockElision.STEP_IDLE);
        }
    }

    private static void releaseFreesTheLock() {
        for (int core = 0; core < 4; core++) {
            LockElision x = new LockElision(4, 4, 2);
            int other = (core + 1) % 4;
            Sections.lock(x, core);
            Sections.start(x, other, Sections.xabort(0));
            CHECK.due("a begin before the release", x.step(other), LockElision.STEP_BLOCKED);
            CHECK.due("release", x.step(core), LockElision.STEP_RELEASED);
            CHECK.due("lockOwner()", x.lockOwner(), -1);
            CHECK.due("a begin after the release", x.step(other), LockElision.STEP_BEGAN);
            x.step(other);
            CHECK.due("an acquire after the release", x.step(other), LockElision.STEP_ACQUIRED);
        }
    }

    private static void resultsOfARelease() {
        for (int core = 0; core < 4; core++) {
            LockElision x = new LockElision(4, 4, 2);
            for (int n = 1; n <= 2; n++) {
                Sections.lock(x, core, fourValues(n));
                Sections.steps(x, core, 4);
                CHECK.due("result before the release", x.result(core, 1), n == 1 ? 0 : -1);
                CHECK.due("release", x.step(core), LockElision.STEP_RELEASED);
                resultsAre(x, core, n);
            }
        }
    }

    private static void lockedCounter() {
        LockElision x = new LockElision(4, 4, 2);
        for (int n = 1; n <= 40; n++) {
            Sections.lock(x, 1);
            CHECK.due("releases before release " + n, x.count(1, LockElision.COUNT_LOCKED), n - 1);
            CHECK.due("release", x.step(1), LockElision.STEP_RELEASED);
            CHECK.due("releases after release " + n, x.count(1, LockElision.COUNT_LOCKED), n);
            CHECK.due("commits", x.count(1, LockElision.COUNT_ELIDED), 0);
            CHECK.due("aborts", x.count(1, LockElision.COUNT_ABORTS), n);
        }
    }

    private static void keptByARelease() {
        LockElision x = new LockElision(4, 4, 2);
        Sections.speculate(x, 1, 2, Sections.loadi(2, 9), Sections.store(2, 3), Sections.xabort(-5));
        Sections.must(x.step(1) == LockElision.STEP_ABORTED);
        Sections.must(x.step(1) == LockElision.STEP_ACQUIRED);
        Sections.steps(x, 1, 3);
        int[] want = Sections.seen(x);
        int at = Sections.part(1);
        CHECK.due("attempts before", want[at + Sections.ATTEMPTS], 1);
        CHECK.due("code before", want[at + Sections.CODE], -5);
        CHECK.due("pc before", want[at + Sections.PC], 3);
        want[0] = -1;
        want[at + Sections.STATE] = LockElision.STATE_IDLE;
        want[at + Sections.RESULT + 2] = 9;
        want[at + Sections.COUNT + LockElision.COUNT_LOCKED] = 1;
        CHECK.due("release", x.step(1), LockElision.STEP_RELEASED);
        CHECK.same("a release", Sections.seen(x), want);
    }
}
