/** "Terms" and "States". */
public final class TermsTest {
    private static final Check CHECK = new Check();

    public static void main(String[] args) {
        CHECK.sentence("**Core:** 0..3.", TermsTest::cores);
        CHECK.sentence("**Address:** 0..63. Memory words are `int` and are all 0 at start.", TermsTest::addresses);
        CHECK.sentence("**Line** of an address: address / 4, giving lines 0..15.", TermsTest::lines);
        CHECK.sentence("**Set** of a line 0..15: line % sets.", TermsTest::sets);
        CHECK.sentence("**Lock line:** the lock word lives on its own line, `LOCK_LINE` (16), which always belongs to set 0.",
                TermsTest::lockLine);
        CHECK.sentence("**Lock owner:** -1 (free) or a core.", TermsTest::lockOwner);
        CHECK.sentence("each core has a program (0..16 instructions), a state, a pc, and registers r0..r3 (`int`, wrapping"
                + " arithmetic as Java does it).", TermsTest::programAndRegisters);
        CHECK.sentence("It also has a footprint (for each line 0..16, a read bit and a write bit), a write buffer (for each"
                + " address, either nothing or a buffered `int`), and result registers (4 ints, all 0 at start).",
                TermsTest::buffer);
        CHECK.sentence("a line is in the footprint of a core when its read bit or write bit is set.", TermsTest::inTheFootprint);
        CHECK.sentence("The footprint lines of a core in set s are counted over lines 0..16, with line 16 counted in set 0.",
                TermsTest::countedLines);
        CHECK.sentence("A core is in SPEC only while the lock is free.", TermsTest::specOnlyWhileFree);
        CHECK.sentence("No core is in SPEC while the lock is held.", TermsTest::noneInSpecWhileHeld);
        CHECK.end();
    }

    /** The nearest numbers outside are no cores to any call; the four inside have lives of their own. */
    private static void cores() {
        for (int core : Check.NOT_0_TO_3) {
            LockElision x = Pasts.fresh();
            CHECK.due("append(" + core + ", 0, 0, 0)", x.append(core, 0, 0, 0), -1);
            CHECK.due("clearProgram(" + core + ")", x.clearProgram(core), false);
            CHECK.due("enter(" + core + ")", x.enter(core), false);
            CHECK.due("step(" + core + ")", x.step(core), LockElision.STEP_REFUSED);
            CHECK.due("state(" + core + ")", x.state(core), -1);
        }
        LockElision x = Pasts.fresh();
        for (int core = 0; core < 4; core++) {
            Sections.speculate(x, core, 1, Sections.loadi(core, 60 + core));
        }
        for (int core = 0; core < 4; core++) {
            CHECK.due("commit of core " + core, x.step(core), LockElision.STEP_COMMITTED);
            for (int r = 0; r < 4; r++) {
                CHECK.due("result(" + core + ", " + r + ")", x.result(core, r), r == core ? 60 + core : 0);
            }
        }
    }

    private static void addresses() {
        LockElision x = Pasts.fresh();
        for (int addr = 0; addr < 64; addr++) {
            CHECK.due("peek(" + addr + ") at start", x.peek(addr), 0);
        }
        for (int value : new int[] {Integer.MIN_VALUE, -1, 0, Integer.MAX_VALUE}) {
            for (int addr : new int[] {0, 63}) {
                CHECK.due("poke(" + addr + ", " + value + ")", x.poke(addr, value), true);
                CHECK.due("peek(" + addr + ")", x.peek(addr), value);
            }
        }
        for (int addr : new int[] {-1, 64}) {
            CHECK.due("poke(" + addr + ", 1)", x.poke(addr, 1), false);
            CHECK.due("peek(" + addr + ")", x.peek(addr), 0);
            CHECK.due("append of a load of " + addr, x.append(0, LockElision.OP_LOAD, 0, addr), -1);
            CHECK.due("append of a store to " + addr, x.append(0, LockElision.OP_STORE, 0, addr), -1);
        }
    }

    private static void lines() {
        for (int addr = 0; addr < 64; addr++) {
            LockElision x = new LockElision(4, 4, 2);
            Sections.speculate(x, 0, 1, Sections.load(0, addr));
            for (int line = 0; line < 16; line++) {
                CHECK.due("lineState(0, " + line + ") after a load of " + addr, x.lineState(0, line),
                        line == addr / 4 ? LockElision.READ_BIT : 0);
            }
        }
    }

    /** With one way, any two lines of the same set overflow it, and two lines of different sets don't. */
    private static void sets() {
        for (int sets = 1; sets <= 4; sets++) {
            for (int first = 0; first < 16; first++) {
                for (int second = 0; second < 16; second++) {
                    if (first % sets != 0 && second % sets != 0 && first != second) {
                        twoLines(sets, first, second);
                    }
                }
            }
        }
    }

    private static void twoLines(int sets, int first, int second) {
        LockElision x = new LockElision(1, sets, 2);
        Sections.speculate(x, 0, 1, Sections.load(0, 4 * first), Sections.load(0, 4 * second + 3));
        CHECK.due("lines " + first + " and " + second + " with sets " + sets, x.step(0),
                first % sets == second % sets ? LockElision.STEP_ABORTED : LockElision.STEP_EXECUTED);
    }

    /** With one way, the lock line leaves no room for any line of set 0, and takes none from another set. */
    private static void lockLine() {
        for (int sets = 1; sets <= 4; sets++) {
            for (int line = 0; line < 16; line++) {
                LockElision x = new LockElision(1, sets, 2);
                Sections.speculate(x, 0, 0, Sections.store(0, 4 * line));
                CHECK.due("lineState(0, 16) after the begin", x.lineState(0, 16), LockElision.READ_BIT);
                CHECK.due("line " + line + " beside the lock line with sets " + sets, x.step(0),
                        line % sets == 0 ? LockElision.STEP_ABORTED : LockElision.STEP_EXECUTED);
            }
        }
        everyAddressLeavesTheLockLine();
    }

    /** The lock word is on its own line: no load or store touches that line, so none aborts a core that only began. */
    private static void everyAddressLeavesTheLockLine() {
        for (int addr = 0; addr < 64; addr++) {
            LockElision x = new LockElision(4, 4, 2);
            Sections.speculate(x, 1, 0, Sections.loadi(0, 0));
            Sections.speculate(x, 0, 1, Sections.store(0, addr));
            CHECK.due("lineState(0, 16) after a store to " + addr, x.lineState(0, 16), LockElision.READ_BIT);
            CHECK.due("a core that only began", x.state(1), LockElision.STATE_SPEC);
        }
    }

    private static void lockOwner() {
        LockElision x = new LockElision(2, 2, 2);
        CHECK.due("lockOwner() at start", x.lockOwner(), -1);
        for (int core = 0; core < 4; core++) {
            Sections.lock(x, core);
            CHECK.due("lockOwner() under the lock", x.lockOwner(), core);
            CHECK.due("release", x.step(core), LockElision.STEP_RELEASED);
            CHECK.due("lockOwner() after the release", x.lockOwner(), -1);
        }
    }

    private static void programAndRegisters() {
        for (int core = 0; core < 4; core++) {
            LockElision x = Pasts.fresh();
            CHECK.due("enter with 0 instructions", x.enter(core), false);
            for (int i = 1; i <= 16; i++) {
                CHECK.due("append number " + i, x.append(core, LockElision.OP_ADDI, i % 4, Integer.MAX_VALUE), i);
            }
            CHECK.due("append number 17", x.append(core, LockElision.OP_ADDI, 0, 1), -1);
            x.enter(core);
            x.step(core);
            CHECK.due("end of the program", Sections.runOn(x, core), LockElision.STEP_COMMITTED);
            for (int r = 0; r < 4; r++) {
                CHECK.due("four times the greatest int in r" + r, x.reg(core, r), -4);
            }
        }
    }

    /** A buffered 0 is not nothing, the words beside it are, and the first and last address have a place. */
    private static void buffer() {
        for (int addr : new int[] {0, 1, 31, 62, 63}) {
            for (int value : new int[] {0, -1, Integer.MIN_VALUE, Integer.MAX_VALUE}) {
                LockElision x = new LockElision(4, 4, 2);
                int beside = addr ^ 1;
                x.poke(addr, 40);
                x.poke(beside, 50);
                Sections.speculate(x, 2, 4, Sections.loadi(0, value), Sections.store(0, addr), Sections.load(1, addr),
                        Sections.load(2, beside));
                CHECK.due("a load of the buffered " + value, x.reg(2, 1), value);
                CHECK.due("a load of the word beside it", x.reg(2, 2), 50);
                for (int r = 0; r < 4; r++) {
                    CHECK.due("result " + r + " at start", x.result(2, r), 0);
                }
                CHECK.due("memory before the commit", x.peek(addr), 40);
                CHECK.due("commit", x.step(2), LockElision.STEP_COMMITTED);
                CHECK.due("memory after the commit", x.peek(addr), value);
                CHECK.due("the word beside it after the commit", x.peek(beside), 50);
            }
        }
    }

    /** A set of two ways holds the lock line and one line more, whether that was read, written or both. */
    private static void inTheFootprint() {
        int[][][] ways = {{Sections.load(0, 20)}, {Sections.store(0, 20)}, {Sections.load(0, 20), Sections.store(0, 23)}};
        int[] bits = {LockElision.READ_BIT, LockElision.WRITE_BIT, LockElision.READ_BIT | LockElision.WRITE_BIT};
        for (int i = 0; i < 3; i++) {
            for (int[] again : new int[][] {Sections.load(0, 21), Sections.store(0, 22)}) {
                LockElision x = new LockElision(2, 1, 2);
                int[][] program = new int[ways[i].length + 2][];
                System.arraycopy(ways[i], 0, program, 0, ways[i].length);
                program[ways[i].length] = again;
                program[ways[i].length + 1] = Sections.load(0, 24);
                Sections.speculate(x, 0, ways[i].length, program);
                CHECK.due("lineState(0, 5)", x.lineState(0, 5), bits[i]);
                CHECK.due("the line again", x.step(0), LockElision.STEP_EXECUTED);
                CHECK.due("another line", x.step(0), LockElision.STEP_ABORTED);
                CHECK.due("cause", x.lastCause(0), LockElision.CAUSE_CAPACITY);
            }
        }
    }

    /** Fills every set of every shape from the lowest line up and from the highest down. */
    private static void countedLines() {
        for (int sets = 1; sets <= 4; sets++) {
            for (int ways = 1; ways <= 4; ways++) {
                for (int set = 0; set < sets; set++) {
                    for (int core = 0; core < 4; core++) {
                        fillSet(core, ways, sets, set, false);
                        fillSet(core, ways, sets, set, true);
                    }
                }
            }
        }
    }

    private static void fillSet(int core, int ways, int sets, int set, boolean down) {
        LockElision x = new LockElision(ways, sets, 7);
        int room = (15 - set) / sets + 1;
        int free = set == 0 ? ways - 1 : ways;
        for (int i = 0; i < room; i++) {
            int line = set + sets * (down ? room - 1 - i : i);
            Sections.must(x.append(core, LockElision.OP_LOAD, 0, 4 * line + 3) > 0);
        }
        x.enter(core);
        x.step(core);
        String what = "core " + core + ", ways " + ways + ", sets " + sets + ", set " + set + ", line number ";
        for (int i = 0; i < room && i <= free; i++) {
            CHECK.due(what + i, x.step(core), i < free ? LockElision.STEP_EXECUTED : LockElision.STEP_ABORTED);
        }
    }

    /** A core that wants to begin can't before the lock is free, and can right after that. */
    private static void specOnlyWhileFree() {
        LockElision x = new LockElision(4, 4, 2);
        Sections.lock(x, 3, Sections.loadi(0, 1));
        Sections.start(x, 0, Sections.loadi(0, 1));
        for (int answer : new int[] {LockElision.STEP_EXECUTED, LockElision.STEP_RELEASED}) {
            CHECK.due("a begin under the lock", x.step(0), LockElision.STEP_BLOCKED);
            CHECK.due("state under the lock", x.state(0), LockElision.STATE_READY);
            CHECK.due("the owner's step", x.step(3), answer);
        }
        CHECK.due("a begin after the release", x.step(0), LockElision.STEP_BEGAN);
        CHECK.due("state after the begin", x.state(0), LockElision.STATE_SPEC);
        CHECK.due("lockOwner() beside it", x.lockOwner(), -1);
    }

    private static void noneInSpecWhileHeld() {
        for (int retries : new int[] {0, 7}) {
            for (int owner = 0; owner < 4; owner++) {
                LockElision x = new LockElision(4, 4, retries);
                Sections.start(x, owner, Sections.xabort(0), Sections.loadi(0, 1));
                x.step(owner);
                x.step(owner);
                for (int core = 0; core < 4; core++) {
                    if (core != owner) {
                        Sections.speculate(x, core, 1, Sections.load(0, 16 * core), Sections.loadi(0, 1));
                    }
                }
                CHECK.due("acquire", x.step(owner), LockElision.STEP_ACQUIRED);
                for (int i = 0; i < 3; i++) {
                    blockedBeside(x, owner);
                    x.step(owner);
                }
                CHECK.due("lockOwner() after the release", x.lockOwner(), -1);
            }
        }
    }

    private static void blockedBeside(LockElision x, int owner) {
        CHECK.due("lockOwner()", x.lockOwner(), owner);
        for (int core = 0; core < 4; core++) {
            CHECK.due("core " + core + " in SPEC", x.state(core) == LockElision.STATE_SPEC, false);
            if (core != owner) {
                CHECK.due("step(" + core + ")", x.step(core), LockElision.STEP_BLOCKED);
            }
            CHECK.due("core " + core + " in SPEC", x.state(core) == LockElision.STATE_SPEC, false);
        }
    }
}
