/** Promise 1: Construction. */
public final class ConstructionTest {
    private static final Check CHECK = new Check();
    private static final int LEAST = Integer.MIN_VALUE;
    private static final int MOST = Integer.MAX_VALUE;
    private static final int[][] PARAMETERS = {
        {1, 1, 0}, {4, 4, 7}, {2, 3, 5}, {0, 0, -1}, {5, 5, 8}, {LEAST, LEAST, LEAST}, {MOST, MOST, MOST},
    };

    public static void main(String[] args) {
        CHECK.sentence("`ways` is the number of lines a set may hold per core. It is clamped to 1..4: below 1 becomes 1,"
                + " above 4 becomes 4.", ConstructionTest::waysAreClamped);
        CHECK.sentence("`sets` is clamped to 1..4 in the same way.", ConstructionTest::setsAreClamped);
        CHECK.sentence("`retries` is clamped to 0..7 in the same way.", ConstructionTest::retriesAreClamped);
        CHECK.sentence("Any `int` is accepted, including `Integer.MIN_VALUE` and `Integer.MAX_VALUE`.",
                ConstructionTest::anyIntIsAccepted);
        CHECK.sentence("all memory is 0 and the lock is free (owner -1);", ConstructionTest::memoryAndLockAtStart);
        CHECK.sentence("every core is IDLE with an empty program and pc 0;", ConstructionTest::coresAtStart);
        CHECK.sentence("registers and results are 0;", ConstructionTest::registersAtStart);
        CHECK.sentence("footprint and buffer are empty;", ConstructionTest::footprintAndBufferAtStart);
        CHECK.sentence("attempts are 0, last cause is `CAUSE_NONE`, abort code is 0;", ConstructionTest::abortsAtStart);
        CHECK.sentence("all counters are 0.", ConstructionTest::countersAtStart);
        CHECK.end();
    }

    private static void waysAreClamped() {
        int[][] cases = {{LEAST, 1}, {LEAST + 1, 1}, {-4, 1}, {-1, 1}, {0, 1}, {1, 1}, {2, 2}, {3, 3}, {4, 4}, {5, 4},
            {6, 4}, {8, 4}, {MOST - 1, 4}, {MOST, 4}};
        for (int[] one : cases) {
            CHECK.due("lines held with ways " + one[0], linesOfOneSet(one[0]), one[1]);
        }
    }

    /** How many lines of set 1 of two a section can hold before it overflows. */
    private static int linesOfOneSet(int ways) {
        LockElision x = new LockElision(ways, 2, 0);
        Sections.start(x, 0, Sections.load(0, 4), Sections.load(0, 12), Sections.load(0, 20),
                Sections.load(0, 28), Sections.load(0, 36), Sections.load(0, 44));
        x.step(0);
        int held = 0;
        while (held < 6 && x.step(0) == LockElision.STEP_EXECUTED) {
            held++;
        }
        return held;
    }

    private static void setsAreClamped() {
        int[][] cases = {{LEAST, 1}, {LEAST + 1, 1}, {-4, 1}, {-1, 1}, {0, 1}, {1, 1}, {2, 2}, {3, 3}, {4, 4}, {5, 4},
            {6, 4}, {8, 4}, {MOST - 1, 4}, {MOST, 4}};
        for (int[] one : cases) {
            CHECK.due("lines held in twos with sets " + one[0], linesOfAllSets(one[0]), 2 * one[1]);
        }
    }

    /** With two ways a set, all sets together hold twice their number, the lock line among them. */
    private static int linesOfAllSets(int sets) {
        LockElision x = new LockElision(2, sets, 0);
        Sections.start(x, 0, Sections.load(0, 4), Sections.load(0, 8), Sections.load(0, 12), Sections.load(0, 16),
                Sections.load(0, 20), Sections.load(0, 24), Sections.load(0, 28), Sections.load(0, 32),
                Sections.load(0, 36), Sections.load(0, 40));
        x.step(0);
        int held = 1;
        while (held < 11 && x.step(0) == LockElision.STEP_EXECUTED) {
            held++;
        }
        return held;
    }

    private static void retriesAreClamped() {
        int[][] cases = {{LEAST, 0}, {LEAST + 1, 0}, {-7, 0}, {-1, 0}, {0, 0}, {1, 1}, {2, 2}, {3, 3}, {4, 4}, {5, 5},
            {6, 6}, {7, 7}, {8, 7}, {9, 7}, {16, 7}, {MOST - 1, 7}, {MOST, 7}};
        for (int[] one : cases) {
            CHECK.due("conflicts survived with retries " + one[0], conflictsSurvived(one[0]), one[1]);
        }
    }

    private static int conflictsSurvived(int retries) {
        LockElision x = new LockElision(4, 4, retries);
        int survived = 0;
        Sections.start(x, 0, Sections.load(0, 0));
        while (survived < 20) {
            x.step(0);
            x.step(0);
            Sections.speculate(x, 1, 1, Sections.store(0, 0));
            x.step(1);
            if (x.state(0) != LockElision.STATE_READY) {
                break;
            }
            survived++;
        }
        CHECK.due("state after the last retry of " + retries, x.state(0), LockElision.STATE_WAITLOCK);
        return survived;
    }

    /** Every mixture of the two extremes does what the nearest allowed parameters do. */
    private static void anyIntIsAccepted() {
        for (int ways : new int[] {LEAST, MOST}) {
            for (int sets : new int[] {LEAST, MOST}) {
                for (int retries : new int[] {LEAST, MOST}) {
                    LockElision x = new LockElision(ways, sets, retries);
                    LockElision twin = new LockElision(ways < 1 ? 1 : 4, sets < 1 ? 1 : 4, retries < 0 ? 0 : 7);
                    giveMeetingPrograms(x);
                    giveMeetingPrograms(twin);
                    String what = "new LockElision(" + ways + ", " + sets + ", " + retries + ")";
                    for (int i = 0; i < 400; i++) {
                        CHECK.due(what + ", step(" + i % 4 + ")", x.step(i % 4), twin.step(i % 4));
                    }
                    Twins.sameFuture(CHECK, what, x, twin);
                }
            }
        }
    }

    private static void giveMeetingPrograms(LockElision x) {
        for (int core = 0; core < 4; core++) {
            Sections.start(x, core, Sections.load(0, 4 * core), Sections.addi(0, 1), Sections.store(0, 16),
                    Sections.store(0, 33), Sections.store(0, 48 + core));
        }
    }

    private static void memoryAndLockAtStart() {
        for (int[] p : PARAMETERS) {
            LockElision x = new LockElision(p[0], p[1], p[2]);
            for (int addr = 0; addr < 64; addr++) {
                CHECK.due("peek(" + addr + ") at start", x.peek(addr), 0);
            }
            CHECK.due("lockOwner() at start", x.lockOwner(), -1);
        }
    }

    private static void coresAtStart() {
        for (int[] p : PARAMETERS) {
            LockElision x = new LockElision(p[0], p[1], p[2]);
            for (int core = 0; core < 4; core++) {
                CHECK.due("state(" + core + ") at start", x.state(core), LockElision.STATE_IDLE);
                CHECK.due("pc(" + core + ") at start", x.pc(core), 0);
                CHECK.due("enter(" + core + ") with the program at start", x.enter(core), false);
                CHECK.due("the first append on " + core, x.append(core, LockElision.OP_LOADI, 0, 0), 1);
            }
        }
    }

    private static void registersAtStart() {
        for (int[] p : PARAMETERS) {
            LockElision x = new LockElision(p[0], p[1], p[2]);
            for (int core = 0; core < 4; core++) {
                for (int r = 0; r < 4; r++) {
                    CHECK.due("reg(" + core + ", " + r + ") at start", x.reg(core, r), 0);
                    CHECK.due("result(" + core + ", " + r + ") at start", x.result(core, r), 0);
                }
            }
        }
    }

    /** An empty buffer shows in a first section without stores: its commit writes over no poked word. */
    private static void footprintAndBufferAtStart() {
        for (int[] p : PARAMETERS) {
            for (int core = 0; core < 4; core++) {
                LockElision x = new LockElision(p[0], p[1], p[2]);
                for (int line = 0; line <= 16; line++) {
                    CHECK.due("lineState(" + core + ", " + line + ") at start", x.lineState(core, line), 0);
                }
                for (int addr = 0; addr < 64; addr++) {
                    x.poke(addr, 1 + addr);
                }
                Sections.speculate(x, core, 1, Sections.loadi(0, 1));
                CHECK.due("the first commit", x.step(core), LockElision.STEP_COMMITTED);
                for (int addr = 0; addr < 64; addr++) {
                    CHECK.due("peek(" + addr + ") after a commit without stores", x.peek(addr), 1 + addr);
                }
            }
        }
    }

    private static void abortsAtStart() {
        for (int[] p : PARAMETERS) {
            LockElision x = new LockElision(p[0], p[1], p[2]);
            for (int core = 0; core < 4; core++) {
                CHECK.due("attempts(" + core + ") at start", x.attempts(core), 0);
                CHECK.due("lastCause(" + core + ") at start", x.lastCause(core), LockElision.CAUSE_NONE);
                CHECK.due("abortCode(" + core + ") at start", x.abortCode(core), 0);
            }
        }
    }

    private static void countersAtStart() {
        for (int[] p : PARAMETERS) {
            LockElision x = new LockElision(p[0], p[1], p[2]);
            for (int core = 0; core < 4; core++) {
                for (int kind = 0; kind < 3; kind++) {
                    CHECK.due("count(" + core + ", " + kind + ") at start", x.count(core, kind), 0);
                }
            }
        }
    }
}
