/** Promise 1: the three parameters are clamped, and a new object is all empty. */
public final class ConstructionTest {
    private static final Check CHECK = new Check();

    public static void main(String[] args) {
        int[][] parameters = {
            {1, 1, 0}, {4, 4, 7}, {2, 3, 5}, {0, 0, -1}, {5, 5, 8},
            {Integer.MIN_VALUE, Integer.MIN_VALUE, Integer.MIN_VALUE},
            {Integer.MAX_VALUE, Integer.MAX_VALUE, Integer.MAX_VALUE},
        };
        for (int[] p : parameters) {
            emptyAtStart(p[0], p[1], p[2]);
        }
        int[][] upTo4 = {{Integer.MIN_VALUE, 1}, {-1, 1}, {0, 1}, {1, 1}, {2, 2}, {3, 3}, {4, 4}, {5, 4}, {6, 4},
            {Integer.MAX_VALUE, 4}};
        for (int[] one : upTo4) {
            CHECK.due("ways " + one[0], waysSeen(one[0]), one[1]);
            CHECK.due("sets " + one[0], setsSeen(one[0]), one[1]);
        }
        int[][] upTo7 = {{Integer.MIN_VALUE, 0}, {-1, 0}, {0, 0}, {1, 1}, {2, 2}, {3, 3}, {4, 4}, {5, 5}, {6, 6},
            {7, 7}, {8, 7}, {9, 7}, {Integer.MAX_VALUE, 7}};
        for (int[] one : upTo7) {
            CHECK.due("retries " + one[0], retriesSeen(one[0]), one[1]);
        }
        CHECK.end();
    }

    private static void emptyAtStart(int ways, int sets, int retries) {
        LockElision x = new LockElision(ways, sets, retries);
        int[] want = new int[Sections.seen(x).length];
        want[0] = -1;
        CHECK.same("a new object", Sections.seen(x), want);
        for (int core = 0; core < 4; core++) {
            CHECK.due("enter(" + core + ") with the empty program", x.enter(core), false);
            CHECK.due("the first append on " + core, x.append(core, LockElision.OP_LOADI, 0, 0), 1);
        }
    }

    /** How many lines of set 1 of two a section can hold before it overflows. */
    private static int waysSeen(int ways) {
        LockElision x = new LockElision(ways, 2, 0);
        Sections.start(x, 0, Sections.load(0, 4), Sections.load(0, 12), Sections.load(0, 20),
                Sections.load(0, 28), Sections.load(0, 36), Sections.load(0, 44));
        x.step(0);
        int held = 0;
        while (held < 6 && x.step(0) == LockElision.STEP_EXECUTED) {
            held++;
        }
        return held;
    }

    /** With two ways a set, all sets together hold twice their number, the lock line among them. */
    private static int setsSeen(int sets) {
        LockElision x = new LockElision(2, sets, 0);
        Sections.start(x, 0, Sections.load(0, 4), Sections.load(0, 8), Sections.load(0, 12),
                Sections.load(0, 16), Sections.load(0, 20), Sections.load(0, 24), Sections.load(0, 28),
                Sections.load(0, 32), Sections.load(0, 36), Sections.load(0, 40));
        x.step(0);
        int held = 1;
        while (held < 11 && x.step(0) == LockElision.STEP_EXECUTED) {
            held++;
        }
        return (held + 1) / 2;
    }

    /** How many conflicts a section survives before it wants the lock. */
    private static int retriesSeen(int retries) {
        LockElision x = new LockElision(4, 4, retries);
        int survived = 0;
        Sections.start(x, 0, Sections.load(0, 0));
        while (survived < 20) {
            x.step(0);
            x.step(0);
            Sections.speculate(x, 1, 1, Sections.store(0, 0));
            x.step(1);
            if (x.state(0) != LockElision.STATE_READY) {
                break;
            }
            survived++;
        }
        CHECK.due("state after the last retry of " + retries, x.state(0), LockElision.STATE_WAITLOCK);
        return survived;
    }
}
