/** Promise 5, the speculating memory access: footprint, buffer, conflict, capacity, and the abort with its retries. */
public final class SpeculationTest {
    private static final Check CHECK = new Check();
    private static final int READ = LockElision.READ_BIT;
    private static final int WRITE = LockElision.WRITE_BIT;

    public static void main(String[] args) {
        footprintByLine();
        ownBuffer();
        abortEmptiesTheBuffer();
        commitEmptiesTheBuffer();
        conflicts();
        conflictByIndexedAccess();
        requesterWinsOverAllOthers();
        onlySpeculatingCoresConflict();
        capacityBySet();
        capacityOfTheLockLine();
        capacityCountsLinesOnce();
        capacityAbortAlone();
        retries();
        attemptsOverMixedCauses();
        CHECK.end();
    }

    private static void footprintByLine() {
        for (int addr = 0; addr < 64; addr++) {
            LockElision x = new LockElision(4, 4, 2);
            int other = 63 - addr;
            Sections.speculate(x, 0, 0, Sections.load(0, addr), Sections.store(0, addr), Sections.store(0, other),
                    Sections.load(0, other));
            footprint(x, addr, 0, other, 0);
            Sections.steps(x, 0, 1);
            footprint(x, addr, READ, other, 0);
            Sections.steps(x, 0, 1);
            footprint(x, addr, READ | WRITE, other, 0);
            Sections.steps(x, 0, 1);
            footprint(x, addr, READ | WRITE, other, WRITE);
            Sections.steps(x, 0, 1);
            footprint(x, addr, READ | WRITE, other, READ | WRITE);
        }
    }

    private static void footprint(LockElision x, int addr, int bits, int other, int otherBits) {
        for (int line = 0; line < 16; line++) {
            int want = line == addr / 4 ? bits : line == other / 4 ? otherBits : 0;
            CHECK.due("lineState(0, " + line + ") with " + addr + " and " + other, x.lineState(0, line), want);
        }
        CHECK.due("lineState(0, 16)", x.lineState(0, 16), READ);
    }

    private static void ownBuffer() {
        LockElision x = new LockElision(4, 4, 2);
        x.poke(4, 40);
        x.poke(5, 50);
        Sections.speculate(x, 1, 0, Sections.loadi(0, 1), Sections.store(0, 4), Sections.load(1, 4), Sections.load(2, 5),
                Sections.loadi(0, 0), Sections.store(0, 4), Sections.load(1, 4));
        Sections.steps(x, 1, 4);
        CHECK.due("a load of the buffered word", x.reg(1, 1), 1);
        CHECK.due("a load of its neighbour in the line", x.reg(1, 2), 50);
        Sections.steps(x, 1, 3);
        CHECK.due("a load of a buffered 0", x.reg(1, 1), 0);
        CHECK.due("memory", x.peek(4), 40);
        CHECK.due("commit", x.step(1), LockElision.STEP_COMMITTED);
        CHECK.due("memory after the commit", x.peek(4), 0);
    }

    /** The first try stores 9 and is aborted by a flag; the second try sees the flag, leaves the store out and loads. */
    private static void abortEmptiesTheBuffer() {
        for (int core = 0; core < 4; core++) {
            for (int addr = 0; addr < 64; addr++) {
                int flag = (addr + 32) % 64;
                LockElision x = new LockElision(4, 4, 2);
                x.poke(addr, 5);
                Sections.speculate(x, core, 4, Sections.load(1, flag), Sections.jnz(1, 3), Sections.loadi(0, 9),
                        Sections.store(0, addr), Sections.load(2, addr));
                int other = (core + 1) % 4;
                Sections.speculate(x, other, 2, Sections.loadi(0, 1), Sections.store(0, flag));
                x.step(other);
                CHECK.due("the second try of core " + core, x.step(core), LockElision.STEP_BEGAN);
                Sections.steps(x, core, 3);
                CHECK.due("a load of " + addr + " in the second try", x.reg(core, 2), 5);
                CHECK.due("its commit", x.step(core), LockElision.STEP_COMMITTED);
                CHECK.due("peek(" + addr + ")", x.peek(addr), 5);
            }
        }
    }

    private static void commitEmptiesTheBuffer() {
        for (int core = 0; core < 4; core++) {
            LockElision x = new LockElision(4, 4, 2);
            for (int addr = 0; addr < 64; addr++) {
                Sections.speculate(x, core, 2, Sections.loadi(0, 9), Sections.store(0, addr));
                CHECK.due("commit", x.step(core), LockElision.STEP_COMMITTED);
                CHECK.due("peek(" + addr + ") after the commit", x.peek(addr), 9);
                x.poke(addr, 4);
                Sections.speculate(x, core, 1, Sections.load(1, addr));
                CHECK.due("a load of " + addr + " in the next section", x.reg(core, 1), 4);
                x.step(core);
                CHECK.due("peek(" + addr + ") after the next commit", x.peek(addr), 4);
            }
        }
    }

    /** Every pair of what the victim holds and what the requester does, on the same and on the next line. */
    private static void conflicts() {
        int[] held = {0, READ, WRITE, READ | WRITE};
        for (int has : held) {
            for (int word = 0; word < 4; word++) {
                conflict(has, true, 8 + word, has != 0);
                conflict(has, false, 8 + word, (has & WRITE) != 0);
            }
            conflict(has, true, 7, false);
            conflict(has, false, 7, false);
            conflict(has, true, 12, false);
            conflict(has, false, 12, false);
        }
    }

    private static void conflict(int has, boolean store, int addr, boolean aborts) {
        for (int victim = 0; victim < 4; victim++) {
            int requester = (victim + 1) % 4;
            LockElision x = new LockElision(4, 4, 2);
            x.poke(addr, 3);
            int[] first = (has & READ) != 0 ? Sections.load(0, 9) : Sections.loadi(0, 0);
            int[] second = (has & WRITE) != 0 ? Sections.store(1, 9) : Sections.loadi(0, 0);
            Sections.speculate(x, victim, 3, Sections.loadi(1, 6), first, second);
            Sections.speculate(x, requester, 0, store ? Sections.store(0, addr) : Sections.load(0, addr));
            int[] before = Sections.seen(x);
            CHECK.due("the requester's access", x.step(requester), LockElision.STEP_EXECUTED);
            String what = "held " + has + ", " + (store ? "store" : "load") + " of " + addr;
            CHECK.due(what + ": victim's state", x.state(victim),
                    aborts ? LockElision.STATE_READY : LockElision.STATE_SPEC);
            int at = Sections.part(victim);
            if (aborts) {
                before[at + Sections.STATE] = LockElision.STATE_READY;
                before[at + Sections.PC] = 0;
                before[at + Sections.ATTEMPTS] = 1;
                before[at + Sections.CAUSE] = LockElision.CAUSE_CONFLICT;
                before[at + Sections.REG] = 0;
                before[at + Sections.REG + 1] = 0;
                before[at + Sections.COUNT + LockElision.COUNT_ABORTS] = 1;
                before[at + Sections.LINE + 2] = 0;
                before[at + Sections.LINE + 16] = 0;
            }
            int by = Sections.part(requester);
            before[by + Sections.PC] = 1;
            before[by + Sections.REG] = store ? 0 : 3;
            before[by + Sections.LINE + addr / 4] = store ? WRITE : READ;
            CHECK.same(what, Sections.seen(x), before);
        }
    }

    private static void conflictByIndexedAccess() {
        LockElision x = new LockElision(4, 4, 2);
        Sections.speculate(x, 0, 1, Sections.load(0, 31));
        Sections.speculate(x, 1, 1, Sections.loadi(3, -36), Sections.storex(0, 3));
        Sections.steps(x, 1, 1);
        CHECK.due("a reader under an indexed store", x.lastCause(0), LockElision.CAUSE_CONFLICT);
        Sections.speculate(x, 2, 1, Sections.loadi(3, 92), Sections.loadx(0, 3));
        Sections.steps(x, 2, 1);
        CHECK.due("a writer under an indexed load", x.lastCause(1), LockElision.CAUSE_CONFLICT);
        CHECK.due("the requester goes on", x.state(2), LockElision.STATE_SPEC);
        CHECK.due("its line", x.lineState(2, 7), READ);
    }

    private static void requesterWinsOverAllOthers() {
        for (int requester = 0; requester < 4; requester++) {
            LockElision x = new LockElision(4, 4, 0);
            for (int core = 0; core < 4; core++) {
                Sections.speculate(x, core, 1, Sections.load(0, 44), Sections.store(0, 45));
            }
            CHECK.due("store over three readers", x.step(requester), LockElision.STEP_EXECUTED);
            for (int core = 0; core < 4; core++) {
                boolean wins = core == requester;
                CHECK.due("state", x.state(core), wins ? LockElision.STATE_SPEC : LockElision.STATE_WAITLOCK);
                CHECK.due("aborts", x.count(core, LockElision.COUNT_ABORTS), wins ? 0 : 1);
                CHECK.due("line 11", x.lineState(core, 11), wins ? READ | WRITE : 0);
            }
        }
    }

    private static void onlySpeculatingCoresConflict() {
        LockElision x = new LockElision(4, 4, 2);
        Sections.speculate(x, 0, 1, Sections.load(0, 0));
        x.step(0);
        Sections.start(x, 1, Sections.load(0, 0));
        Sections.start(x, 2, Sections.xabort(8));
        x.step(2);
        x.step(2);
        Sections.speculate(x, 3, 0, Sections.store(0, 0));
        int[] want = Sections.seen(x);
        want[Sections.part(3) + Sections.PC] = 1;
        want[Sections.part(3) + Sections.LINE] = WRITE;
        x.step(3);
        CHECK.same("a store beside IDLE, READY and WAITLOCK", Sections.seen(x), want);
    }

    /** Fills one set of every shape; the line after the last way overflows, a line of another set does not. */
    private static void capacityBySet() {
        for (int sets = 1; sets <= 4; sets++) {
            for (int ways = 1; ways <= 4; ways++) {
                for (int set = 0; set < sets; set++) {
                    for (int core = 0; core < 4; core++) {
                        fillSet(core, ways, sets, set);
                    }
                }
            }
        }
    }

    private static void fillSet(int core, int ways, int sets, int set) {
        LockElision x = new LockElision(ways, sets, 7);
        int free = set == 0 ? ways - 1 : ways;
        int room = 0;
        for (int line = set; line < 16; line += sets) {
            room++;
        }
        int appended = 0;
        for (int line = set; line < 16 && appended <= free; line += sets) {
            x.append(core, LockElision.OP_LOAD, 0, line * 4 + 3);
            appended++;
        }
        x.enter(core);
        x.step(core);
        String what = "core " + core + ", ways " + ways + ", sets " + sets + ", set " + set;
        for (int i = 0; i < free && i < room; i++) {
            CHECK.due(what + ", line " + i, x.step(core), LockElision.STEP_EXECUTED);
        }
        if (room > free) {
            CHECK.due(what + ", overflow", x.step(core), LockElision.STEP_ABORTED);
            CHECK.due(what + ", cause", x.lastCause(core), LockElision.CAUSE_CAPACITY);
            CHECK.due(what + ", state", x.state(core), LockElision.STATE_WAITLOCK);
        }
    }

    /** With three sets the lock line's number alone would put it in set 1; it counts in set 0. */
    private static void capacityOfTheLockLine() {
        LockElision x = new LockElision(1, 3, 2);
        Sections.speculate(x, 0, 1, Sections.load(0, 4), Sections.store(0, 8), Sections.load(0, 12));
        CHECK.due("line 2, set 2 of three", x.step(0), LockElision.STEP_EXECUTED);
        CHECK.due("line 3, set 0 of three", x.step(0), LockElision.STEP_ABORTED);
        CHECK.due("cause", x.lastCause(0), LockElision.CAUSE_CAPACITY);
    }

    private static void capacityCountsLinesOnce() {
        LockElision x = new LockElision(2, 1, 2);
        Sections.speculate(x, 0, 6, Sections.load(0, 20), Sections.load(0, 21), Sections.store(0, 22), Sections.load(0, 23),
                Sections.store(0, 20), Sections.load(0, 20), Sections.store(0, 24));
        CHECK.due("the full set's own line", x.lineState(0, 5), READ | WRITE);
        CHECK.due("a second line", x.step(0), LockElision.STEP_ABORTED);
    }

    /** A store that overflows does nothing but abort its own core. */
    private static void capacityAbortAlone() {
        LockElision x = new LockElision(2, 1, 7);
        Sections.speculate(x, 0, 1, Sections.load(0, 0));
        Sections.speculate(x, 1, 3, Sections.loadi(2, 5), Sections.store(2, 9), Sections.loadi(3, 1), Sections.store(2, 0));
        int[] want = Sections.seen(x);
        int at = Sections.part(1);
        want[at + Sections.STATE] = LockElision.STATE_WAITLOCK;
        want[at + Sections.PC] = 0;
        want[at + Sections.ATTEMPTS] = 1;
        want[at + Sections.CAUSE] = LockElision.CAUSE_CAPACITY;
        want[at + Sections.REG + 2] = 0;
        want[at + Sections.REG + 3] = 0;
        want[at + Sections.COUNT + LockElision.COUNT_ABORTS] = 1;
        want[at + Sections.LINE + 2] = 0;
        want[at + Sections.LINE + 16] = 0;
        CHECK.due("a store that overflows", x.step(1), LockElision.STEP_ABORTED);
        CHECK.same("a capacity abort", Sections.seen(x), want);
    }

    /** The n-th abort leads to READY while n <= retries and to WAITLOCK after that. */
    private static void retries() {
        for (int retries = 0; retries <= 7; retries++) {
            LockElision x = new LockElision(4, 4, retries);
            Sections.start(x, 0, Sections.loadi(0, 8), Sections.store(0, 0));
            for (int n = 1; n <= retries + 1; n++) {
                CHECK.due("begin number " + n, x.step(0), LockElision.STEP_BEGAN);
                Sections.steps(x, 0, 2);
                Sections.speculate(x, 1, 1, Sections.load(0, 0));
                x.step(1);
                CHECK.due("attempts", x.attempts(0), n);
                CHECK.due("state after abort " + n + " of " + retries, x.state(0),
                        n <= retries ? LockElision.STATE_READY : LockElision.STATE_WAITLOCK);
            }
            CHECK.due("the reader saw no buffered word", x.result(1, 0), 0);
            CHECK.due("acquire after the retries", x.step(0), LockElision.STEP_ACQUIRED);
            Sections.steps(x, 0, 2);
            CHECK.due("release", x.step(0), LockElision.STEP_RELEASED);
            CHECK.due("memory", x.peek(0), 8);
            CHECK.due("aborts", x.count(0, LockElision.COUNT_ABORTS), retries + 1);
            Sections.start(x, 0, Sections.loadi(0, 8));
            CHECK.due("attempts start anew", x.attempts(0), 0);
            CHECK.due("aborts go on", x.count(0, LockElision.COUNT_ABORTS), retries + 1);
        }
    }

    private static void attemptsOverMixedCauses() {
        LockElision x = new LockElision(4, 4, 2);
        Sections.speculate(x, 0, 1, Sections.load(1, 0), Sections.xabort(17));
        Sections.speculate(x, 1, 1, Sections.store(0, 0));
        x.step(1);
        CHECK.due("after the conflict", x.lastCause(0), LockElision.CAUSE_CONFLICT);
        x.step(0);
        // Core 2 begins its own section while core 0 speculates, then takes the lock.
        Sections.lock(x, 2);
        CHECK.due("after the lock", x.lastCause(0), LockElision.CAUSE_LOCK);
        CHECK.due("attempts after two aborts", x.attempts(0), 2);
        CHECK.due("still READY", x.state(0), LockElision.STATE_READY);
        x.step(2);
        x.step(0);
        Sections.steps(x, 0, 1);
        CHECK.due("the explicit abort", x.step(0), LockElision.STEP_ABORTED);
        CHECK.due("code", x.abortCode(0), 17);
        CHECK.due("attempts after three aborts", x.attempts(0), 3);
        CHECK.due("state", x.state(0), LockElision.STATE_WAITLOCK);
    }
}
