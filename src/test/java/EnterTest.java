/** Promise 4: enter. */
public final class EnterTest {
    private static final Check CHECK = new Check();

    public static void main(String[] args) {
        refusals();
        enterFresh();
        enterAfterRelease();
        CHECK.end();
    }

    private static void refusals() {
        LockElision x = new LockElision(2, 2, 2);
        for (int core = 0; core < 4; core++) {
            refused(x, core, "with an empty program");
        }
        for (int core = 0; core < 4; core++) {
            x.append(core, LockElision.OP_XABORT, 0, 6);
        }
        for (int core : Check.NOT_0_TO_3) {
            refused(x, core, "out of range");
        }
        CHECK.due("enter(0)", x.enter(0), true);
        refused(x, 0, "in READY");
        x.step(0);
        refused(x, 0, "in SPEC");
        x.step(0);
        refused(x, 0, "in WAITLOCK");
        x.step(0);
        refused(x, 0, "in LOCKED");
        x.step(0);
        x.step(0);
        x.clearProgram(0);
        refused(x, 0, "with a cleared program");
    }

    private static void refused(LockElision x, int core, String why) {
        int[] before = Sections.seen(x);
        CHECK.due("enter(" + core + ") " + why, x.enter(core), false);
        CHECK.same("enter(" + core + ") " + why, Sections.seen(x), before);
    }

    private static void enterFresh() {
        for (int core = 0; core < 4; core++) {
            LockElision x = new LockElision(2, 2, 2);
            x.poke(5, 50);
            x.append(core, LockElision.OP_LOADI, 0, 1);
            int[] want = Sections.seen(x);
            want[Sections.part(core) + Sections.STATE] = LockElision.STATE_READY;
            CHECK.due("enter(" + core + ")", x.enter(core), true);
            CHECK.same("enter changes the state alone", Sections.seen(x), want);
        }
    }

    private static void enterAfterRelease() {
        LockElision x = new LockElision(4, 4, 2);
        Sections.lock(x, 1, Sections.loadi(0, 10), Sections.loadi(1, 11), Sections.loadi(2, 12), Sections.loadi(3, 13));
        Sections.steps(x, 1, 4);
        x.step(1);
        Sections.lock(x, 0, Sections.loadi(0, 1), Sections.store(0, 9));
        int[] want = Sections.seen(x);
        int at = Sections.part(1);
        want[at + Sections.STATE] = LockElision.STATE_READY;
        want[at + Sections.PC] = 0;
        want[at + Sections.ATTEMPTS] = 0;
        want[at + Sections.CAUSE] = LockElision.CAUSE_NONE;
        want[at + Sections.CODE] = 0;
        for (int r = 0; r < 4; r++) {
            CHECK.due("register kept after the release", x.reg(1, r), 10 + r);
            want[at + Sections.REG + r] = 0;
        }
        CHECK.due("enter while another core holds the lock", x.enter(1), true);
        CHECK.same("what enter resets and what it keeps", Sections.seen(x), want);
        for (int r = 0; r < 4; r++) {
            CHECK.due("result kept by enter", x.result(1, r), 10 + r);
        }
        CHECK.due("releases kept by enter", x.count(1, LockElision.COUNT_LOCKED), 1);
        CHECK.due("aborts kept by enter", x.count(1, LockElision.COUNT_ABORTS), 1);
        CHECK.due("the entered core waits", x.step(1), LockElision.STEP_BLOCKED);
    }
}
