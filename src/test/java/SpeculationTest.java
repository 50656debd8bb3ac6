import java.util.Arrays;

/** Promise 5, SPEC with pc < length: the explicit abort, the memory access in its five steps, and the other ops. */
public final class SpeculationTest {
    private static final Check CHECK = new Check();
    private static final int READ = LockElision.READ_BIT;
    private static final int WRITE = LockElision.WRITE_BIT;

    public static void main(String[] args) {
        CHECK.sentence("`OP_XABORT`: X aborts with `CAUSE_EXPLICIT` and code b; answers `STEP_ABORTED`. pc stays 0 as set by the"
                + " abort; it is not advanced afterwards.", SpeculationTest::explicitAbort);
        CHECK.sentence("If L is not in X's footprint and X's footprint lines in s already number `ways`: X aborts with"
                + " `CAUSE_CAPACITY` and the step answers `STEP_ABORTED`.", SpeculationTest::capacity);
        CHECK.sentence("Nothing else happens in that case.", SpeculationTest::capacityAbortAlone);
        CHECK.sentence("The lock line counts among the lines of set 0.", SpeculationTest::lockLineCounts);
        String conflict = "For each other core Y in SPEC, in ascending order, Y aborts with `CAUSE_CONFLICT` in two cases: the"
                + " access is a write and L is in Y's footprint, or the access is a read and L has Y's write bit.";
        CHECK.sentence(conflict, SpeculationTest::conflicts);
        CHECK.sentence(conflict, SpeculationTest::conflictByIndexedAccess);
        CHECK.sentence(conflict, SpeculationTest::requesterWinsOverAllOthers);
        CHECK.sentence(conflict, SpeculationTest::onlySpeculatingCoresConflict);
        CHECK.sentence("X sets the read bit of L (load) or the write bit of L (store).", SpeculationTest::footprintBits);
        CHECK.sentence("For a load, r[a] = X's buffered value for m if any, else memory[m].", SpeculationTest::loads);
        CHECK.sentence("For a store, X's buffer for m = r[a]. Memory is unchanged.", SpeculationTest::stores);
        CHECK.sentence("pc advances by one; answers `STEP_EXECUTED`.", SpeculationTest::accessAdvancesPc);
        CHECK.sentence("Other ops (`OP_LOADI`, `OP_ADD`, `OP_ADDI`, `OP_JNZ`): the effect on registers and pc given in the"
                + " instruction table, with no footprint change; answers `STEP_EXECUTED`.", SpeculationTest::otherOps);
        CHECK.end();
    }

    private static void explicitAbort() {
        for (int code : new int[] {0, 1, -1, 255, Integer.MIN_VALUE, Integer.MAX_VALUE}) {
            LockElision x = new LockElision(4, 4, 7);
            x.poke(8, 80);
            Sections.speculate(x, 2, 3, Sections.load(1, 8), Sections.addi(1, 1), Sections.store(1, 8), Sections.xabort(code));
            int[] want = Sections.seen(x);
            Sections.fallen(want, 2, LockElision.CAUSE_EXPLICIT, LockElision.STATE_WAITLOCK);
            want[Sections.part(2) + Sections.CODE] = code;
            CHECK.due("OP_XABORT with code " + code, x.step(2), LockElision.STEP_ABORTED);
            CHECK.same("an explicit abort", Sections.seen(x), want);
            CHECK.due("pc", x.pc(2), 0);
        }
    }

    /** Set 1 of two is filled to its last way; then its own lines and the other set still fit, a new line of it doesn't. */
    private static void capacity() {
        for (int ways = 1; ways <= 4; ways++) {
            for (int[] last : new int[][] {Sections.load(0, 60), Sections.store(0, 63)}) {
                for (int core = 0; core < 4; core++) {
                    int[][] program = new int[ways + 4][];
                    for (int i = 0; i < ways; i++) {
                        program[i] = i % 2 == 0 ? Sections.load(0, 8 * i + 4) : Sections.store(0, 8 * i + 4);
                    }
                    program[ways] = Sections.store(0, 7);
                    program[ways + 1] = Sections.load(0, 8 * ways - 1);
                    program[ways + 2] = ways > 1 ? Sections.load(0, 0) : Sections.loadi(0, 0);
                    program[ways + 3] = last;
                    LockElision x = new LockElision(ways, 2, 7);
                    Sections.speculate(x, core, 0, program);
                    for (int i = 0; i < ways + 3; i++) {
                        CHECK.due("instruction " + i + " with ways " + ways, x.step(core), LockElision.STEP_EXECUTED);
                    }
                    CHECK.due("a line too many with ways " + ways, x.step(core), LockElision.STEP_ABORTED);
                    CHECK.due("cause", x.lastCause(core), LockElision.CAUSE_CAPACITY);
                    CHECK.due("state", x.state(core), LockElision.STATE_WAITLOCK);
                }
            }
        }
    }

    /** The access that overflows would conflict with another core, but that core stays as it is. */
    private static void capacityAbortAlone() {
        for (int[] last : new int[][] {Sections.store(2, 0), Sections.load(2, 0), Sections.storex(2, 0), Sections.loadx(2, 0)}) {
            LockElision x = new LockElision(2, 1, 7);
            x.poke(0, 77);
            Sections.speculate(x, 0, 2, Sections.loadi(0, 6), Sections.store(0, 0));
            Sections.speculate(x, 1, 3, Sections.loadi(2, 5), Sections.store(2, 9), Sections.loadi(3, 1), last);
            int[] want = Sections.seen(x);
            Sections.fallen(want, 1, LockElision.CAUSE_CAPACITY, LockElision.STATE_WAITLOCK);
            CHECK.due("an access that overflows", x.step(1), LockElision.STEP_ABORTED);
            CHECK.same("a capacity abort", Sections.seen(x), want);
            CHECK.due("the other core commits", x.step(0), LockElision.STEP_COMMITTED);
            CHECK.due("its store", x.peek(0), 6);
        }
    }

    /** In set 0 there is one way less than in the others, also when sets does not divide 16. */
    private static void lockLineCounts() {
        for (int sets = 1; sets <= 4; sets++) {
            for (int ways = 1; ways <= 4; ways++) {
                LockElision x = new LockElision(ways, sets, 2);
                for (int i = 0; i < ways; i++) {
                    Sections.must(x.append(0, LockElision.OP_STORE, 0, 4 * sets * i) > 0);
                }
                x.enter(0);
                x.step(0);
                for (int i = 0; i < ways - 1; i++) {
                    CHECK.due("line " + sets * i + " with sets " + sets, x.step(0), LockElision.STEP_EXECUTED);
                }
                CHECK.due("line number " + ways + " of set 0 with ways " + ways, x.step(0), LockElision.STEP_ABORTED);
                CHECK.due("cause", x.lastCause(0), LockElision.CAUSE_CAPACITY);
            }
        }
    }

    /** Every pair of what the victim holds and what the requester does, on the same line and on the two beside it. */
    private static void conflicts() {
        int[] held = {0, READ, WRITE, READ | WRITE};
        for (int has : held) {
            for (int word = 0; word < 4; word++) {
                conflict(has, true, 8 + word, has != 0);
                conflict(has, false, 8 + word, (has & WRITE) != 0);
            }
            conflict(has, true, 7, false);
            conflict(has, false, 7, false);
            conflict(has, true, 12, false);
            conflict(has, false, 12, false);
        }
    }

    private static void conflict(int has, boolean store, int addr, boolean aborts) {
        for (int victim = 0; victim < 4; victim++) {
            for (int by = 1; by < 4; by++) {
                int requester = (victim + by) % 4;
                LockElision x = new LockElision(4, 4, 2);
                x.poke(addr, 3);
                int[] first = (has & READ) != 0 ? Sections.load(0, 9) : Sections.loadi(0, 0);
                int[] second = (has & WRITE) != 0 ? Sections.store(1, 9) : Sections.loadi(0, 0);
                Sections.speculate(x, victim, 3, Sections.loadi(1, 6), first, second);
                Sections.speculate(x, requester, 0, store ? Sections.store(0, addr) : Sections.load(0, addr));
                int[] want = Sections.seen(x);
                if (aborts) {
                    Sections.fallen(want, victim, LockElision.CAUSE_CONFLICT, LockElision.STATE_READY);
                }
                int at = Sections.part(requester);
                want[at + Sections.PC] = 1;
                want[at + Sections.REG] = store ? 0 : 3;
                want[at + Sections.LINE + addr / 4] = store ? WRITE : READ;
                String what = "held " + has + ", " + (store ? "store" : "load") + " of " + addr;
                CHECK.due(what, x.step(requester), LockElision.STEP_EXECUTED);
                CHECK.same(what, Sections.seen(x), want);
            }
        }
    }

    private static void conflictByIndexedAccess() {
        LockElision x = new LockElision(4, 4, 2);
        Sections.speculate(x, 0, 1, Sections.load(0, 31));
        Sections.speculate(x, 1, 1, Sections.loadi(3, -36), Sections.storex(0, 3));
        Sections.steps(x, 1, 1);
        CHECK.due("a reader under an indexed store", x.lastCause(0), LockElision.CAUSE_CONFLICT);
        Sections.speculate(x, 2, 1, Sections.loadi(3, 92), Sections.loadx(0, 3));
        Sections.steps(x, 2, 1);
        CHECK.due("a writer under an indexed load", x.lastCause(1), LockElision.CAUSE_CONFLICT);
        CHECK.due("the requester goes on", x.state(2), LockElision.STATE_SPEC);
        CHECK.due("its line", x.lineState(2, 7), READ);
    }

    private static void requesterWinsOverAllOthers() {
        for (int requester = 0; requester < 4; requester++) {
            LockElision x = new LockElision(4, 4, 0);
            for (int core = 0; core < 4; core++) {
                Sections.speculate(x, core, 1, Sections.load(0, 44), Sections.store(0, 45));
            }
            int[] want = Sections.seen(x);
            for (int core = 0; core < 4; core++) {
                if (core != requester) {
                    Sections.fallen(want, core, LockElision.CAUSE_CONFLICT, LockElision.STATE_WAITLOCK);
                }
            }
            want[Sections.part(requester) + Sections.PC] = 2;
            want[Sections.part(requester) + Sections.LINE + 11] = READ | WRITE;
            CHECK.due("store over three readers", x.step(requester), LockElision.STEP_EXECUTED);
            CHECK.same("store over three readers", Sections.seen(x), want);
        }
    }

    private static void onlySpeculatingCoresConflict() {
        LockElision x = new LockElision(4, 4, 2);
        Sections.speculate(x, 0, 1, Sections.load(0, 0));
        Sections.must(x.step(0) == LockElision.STEP_COMMITTED);
        Sections.start(x, 1, Sections.load(0, 0));
        Sections.speculate(x, 2, 1, Sections.load(0, 0), Sections.xabort(8));
        Sections.must(x.step(2) == LockElision.STEP_ABORTED);
        Sections.speculate(x, 3, 0, Sections.store(0, 0));
        int[] want = Sections.seen(x);
        want[Sections.part(3) + Sections.PC] = 1;
        want[Sections.part(3) + Sections.LINE] = WRITE;
        CHECK.due("a store beside IDLE, READY and WAITLOCK", x.step(3), LockElision.STEP_EXECUTED);
        CHECK.same("a store beside IDLE, READY and WAITLOCK", Sections.seen(x), want);
    }

    private static void footprintBits() {
        for (int addr = 0; addr < 64; addr++) {
            LockElision x = new LockElision(4, 4, 2);
            int other = 63 - addr;
            Sections.speculate(x, 0, 0, Sections.load(0, addr), Sections.store(0, addr), Sections.store(0, other),
                    Sections.load(0, other));
            footprint(x, addr, 0, other, 0);
            Sections.steps(x, 0, 1);
            footprint(x, addr, READ, other, 0);
            Sections.steps(x, 0, 1);
            footprint(x, addr, READ | WRITE, other, 0);
            Sections.steps(x, 0, 1);
            footprint(x, addr, READ | WRITE, other, WRITE);
            Sections.steps(x, 0, 1);
            footprint(x, addr, READ | WRITE, other, READ | WRITE);
        }
    }

    private static void footprint(LockElision x, int addr, int bits, int other, int otherBits) {
        for (int line = 0; line < 16; line++) {
            int want = line == addr / 4 ? bits : line == other / 4 ? otherBits : 0;
            CHECK.due("lineState(0, " + line + ") with " + addr + " and " + other, x.lineState(0, line), want);
        }
        CHECK.due("lineState(0, 16)", x.lineState(0, 16), READ);
    }

    /** Loads before and after a store of the same word, of its neighbour, and of a word that another core has buffered. */
    private static void loads() {
        for (int addr = 0; addr < 64; addr++) {
            LockElision x = new LockElision(4, 4, 7);
            int beside = addr ^ 1;
            x.poke(addr, 40);
            x.poke(beside, 50);
            Sections.speculate(x, 2, 2, Sections.loadi(0, 9), Sections.store(0, addr));
            Sections.speculate(x, 1, 6, Sections.load(1, addr), Sections.loadi(0, 0), Sections.store(0, addr),
                    Sections.load(2, addr), Sections.load(3, beside), Sections.load(0, beside));
            int[] want = {50, 40, 0, 50};
            for (int r = 0; r < 4; r++) {
                CHECK.due("r" + r + " with word " + addr, x.reg(1, r), want[r]);
            }
        }
    }

    private static void stores() {
        for (int addr = 0; addr < 64; addr++) {
            LockElision x = new LockElision(4, 4, 2);
            x.poke(addr, 40);
            Sections.speculate(x, 3, 1, Sections.loadi(0, 1), Sections.store(0, addr), Sections.load(1, addr),
                    Sections.store(2, addr), Sections.load(3, addr));
            int[] before = Arrays.copyOf(Sections.seen(x), Sections.part(0));
            for (int i = 0; i < 4; i++) {
                Sections.steps(x, 3, 1);
                CHECK.same("owner and memory", Arrays.copyOf(Sections.seen(x), Sections.part(0)), before);
            }
            CHECK.due("the first store, loaded", x.reg(3, 1), 1);
            CHECK.due("the second store, loaded", x.reg(3, 3), 0);
            CHECK.due("commit", x.step(3), LockElision.STEP_COMMITTED);
            CHECK.due("the last store of the word is written", x.peek(addr), 0);
        }
    }

    private static void accessAdvancesPc() {
        int[][] accesses = {Sections.load(0, 63), Sections.store(0, 0), Sections.loadx(0, 1), Sections.storex(0, 1)};
        for (int[] one : accesses) {
            LockElision x = new LockElision(4, 4, 2);
            int[][] program = new int[16][];
            Arrays.fill(program, one);
            Sections.speculate(x, 0, 0, program);
            for (int pc = 1; pc <= 16; pc++) {
                CHECK.due("access number " + pc, x.step(0), LockElision.STEP_EXECUTED);
                CHECK.due("pc after it", x.pc(0), pc);
            }
        }
    }

    /** Operands that would be addresses change no line, and a full set is no hindrance. */
    private static void otherOps() {
        LockElision x = new LockElision(1, 1, 2);
        Sections.speculate(x, 1, 0, Sections.loadi(0, 5), Sections.add(1, 0), Sections.addi(1, 60), Sections.jnz(1, 2),
                Sections.loadi(2, 1), Sections.jnz(2, 16), Sections.loadi(3, 7));
        int[][] want = {{1, 5, 0, 0, 0}, {2, 5, 5, 0, 0}, {3, 5, 65, 0, 0}, {5, 5, 65, 0, 0}, {6, 5, 65, 0, 0}, {7, 5, 65, 0, 7}};
        int[] due = Sections.seen(x);
        int at = Sections.part(1);
        for (int[] one : want) {
            CHECK.due("step", x.step(1), LockElision.STEP_EXECUTED);
            due[at + Sections.PC] = one[0];
            System.arraycopy(one, 1, due, at + Sections.REG, 4);
            CHECK.same("pc and registers alone", Sections.seen(x), due);
        }
        CHECK.due("commit", x.step(1), LockElision.STEP_COMMITTED);
    }
}
