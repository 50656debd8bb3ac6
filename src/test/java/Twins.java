import java.util.function.Supplier;
import java.util.function.ToLongFunction;

/** Two objects with the same past: what a call on one of them changed, even unseen at first, shows in their future. */
final class Twins {
    private static final int ROUNDS = 500;

    private Twins() {
    }

    /** The call gives this answer, and the object goes on as its twin does, on which the call was not made. */
    static void changesNothing(Check check, String what, Supplier<LockElision> past, ToLongFunction<LockElision> call,
            long want) {
        LockElision called = past.get();
        LockElision twin = past.get();
        check.due(what, call.applyAsLong(called), want);
        sameFuture(check, what, called, twin);
    }

    /** Runs all sections to their end, then asks for the programs' lengths and runs the programs once more. */
    static void sameFuture(Check check, String what, LockElision x, LockElision twin) {
        check.same(what + ", at once", Sections.seen(x), Sections.seen(twin));
        runOut(check, what, x, twin);
        for (int core = 0; core < 4; core++) {
            int length = twin.append(core, LockElision.OP_ADDI, 0, 1);
            check.due(what + ", then append on core " + core, x.append(core, LockElision.OP_ADDI, 0, 1), length);
            Sections.must(twin.enter(core));
            check.due(what + ", then enter(" + core + ")", x.enter(core), true);
        }
        runOut(check, what, x, twin);
    }

    private static void runOut(Check check, String what, LockElision x, LockElision twin) {
        boolean allIdle = false;
        for (int round = 0; round < ROUNDS && !allIdle; round++) {
            allIdle = true;
            for (int core = 0; core < 4; core++) {
                int answer = twin.step(core);
                boolean same = check.due(what + ", then step(" + core + ")", x.step(core), answer)
                        && check.same(what + ", then all", Sections.seen(x), Sections.seen(twin));
                if (!same) {
                    return;
                }
                allIdle = allIdle && answer == LockElision.STEP_IDLE;
            }
        }
        Sections.must(allIdle);
    }
}
