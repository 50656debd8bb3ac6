import java.util.function.Supplier;
import java.util.function.ToLongFunction;

/** Two objects with the same past: what a call on one of them changed, even unseen at first, shows in their future. */
final class Twins {
    private static final int TURNS = 8;
    private static final int STEPS = 200;

    private final Check check;
    private final String what;
    private final LockElision x;
    private final LockElision twin;
    private final boolean[] running = new boolean[4];
    private final boolean looking;
    private boolean same = true;

    private Twins(Check check, String what, LockElision x, LockElision twin, boolean looking) {
        this.check = check;
        this.what = what;
        this.x = x;
        this.twin = twin;
        this.looking = looking;
    }

    /**
     * The call gives this answer, and the object goes on as its twin does, on which the call was not made. One future has
     * no looking call before its end: a look that changed something would else change it on the twin too.
     */
    static void changesNothing(Check check, String what, Supplier<LockElision> past, ToLongFunction<LockElision> call,
            long want) {
        for (boolean looking : new boolean[] {false, true}) {
            LockElision called = past.get();
            check.due(what, call.applyAsLong(called), want);
            new Twins(check, what, called, past.get(), looking).future(past.get());
        }
    }

    static void sameFuture(Check check, String what, LockElision x, LockElision twin) {
        new Twins(check, what, x, twin, true).future(twin);
    }

    /** Runs all sections to their end, the programs once more, and once more with an instruction appended. */
    private void future(LockElision inTheSameState) {
        for (int core = 0; core < 4; core++) {
            running[core] = inTheSameState.state(core) != LockElision.STATE_IDLE;
        }
        look();
        runOut();
        enterAll();
        runOut();
        for (int core = 0; core < 4 && same; core++) {
            int length = twin.append(core, LockElision.OP_ADDI, 0, 1);
            same = check.due(what + ", then append on core " + core, x.append(core, LockElision.OP_ADDI, 0, 1), length);
        }
        enterAll();
        runOut();
        same = same && check.same(what + ", all at the end", Sections.seen(x), Sections.seen(twin));
    }

    private void look() {
        if (looking && same) {
            same = check.same(what + ", all", Sections.seen(x), Sections.seen(twin));
        }
    }

    private void enterAll() {
        for (int core = 0; core < 4 && same; core++) {
            running[core] = twin.enter(core);
            same = check.due(what + ", then enter(" + core + ")", x.enter(core), running[core]);
        }
    }

    /** Each core in its turn steps until its section ends or is blocked; an idle core is not stepped. */
    private void runOut() {
        for (int turn = 0; turn < TURNS * 4 && same; turn++) {
            int core = turn % 4;
            int answer = LockElision.STEP_EXECUTED;
            for (int i = 0; i < STEPS && same && running[core] && answer != LockElision.STEP_BLOCKED; i++) {
                answer = twin.step(core);
                same = check.due(what + ", then step(" + core + ")", x.step(core), answer);
                look();
                running[core] = answer != LockElision.STEP_COMMITTED && answer != LockElision.STEP_RELEASED;
            }
        }
        for (int core = 0; core < 4 && same; core++) {
            Sections.must(!running[core]);
        }
    }
}
