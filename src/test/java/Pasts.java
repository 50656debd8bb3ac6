import java.util.List;
import java.util.function.Supplier;

/**
 * Objects with a past, for tests that ask what a call changes; together they have a core in every state. No looking method
 * is called on them, so that a look that changed something could not hide.
 */
final class Pasts {
    private Pasts() {
    }

    static List<Supplier<LockElision>> all() {
        return List.of(Pasts::fresh, Pasts::speculating, Pasts::locked);
    }

    static LockElision fresh() {
        return new LockElision(2, 2, 2);
    }

    /** Core 0 is IDLE after a release, 1 speculates with buffered words, 2 waits for the lock, 3 is READY after a conflict. */
    static LockElision speculating() {
        LockElision x = new LockElision(4, 4, 3);
        Sections.must(x.poke(60, 600));
        Sections.lock(x, 0, Sections.loadi(0, 11), Sections.loadi(1, 12), Sections.loadi(2, 13), Sections.loadi(3, 14));
        Sections.must(Sections.runOn(x, 0) == LockElision.STEP_RELEASED);
        Sections.speculate(x, 3, 1, Sections.load(0, 6), Sections.addi(0, 1), Sections.store(0, 6));
        Sections.start(x, 2, Sections.xabort(-33), Sections.load(1, 0), Sections.addi(1, 5), Sections.store(1, 60));
        x.step(2);
        x.step(2);
        Sections.speculate(x, 1, 5, Sections.loadi(1, 21), Sections.loadi(3, 23), Sections.load(0, 60),
                Sections.store(1, 5), Sections.store(3, 0), Sections.loadi(0, 0));
        return x;
    }

    /** Core 0 holds the lock with a store done, 1 is IDLE after a commit, 2 waits for the lock, 3 is READY. */
    static LockElision locked() {
        LockElision x = new LockElision(1, 3, 1);
        Sections.speculate(x, 1, 3, Sections.loadi(0, -7), Sections.loadi(3, 70), Sections.store(3, 4));
        Sections.must(x.step(1) == LockElision.STEP_COMMITTED);
        Sections.start(x, 2, Sections.xabort(5), Sections.load(1, 63), Sections.addi(1, 2), Sections.store(1, 0));
        x.step(2);
        x.step(2);
        Sections.start(x, 3, Sections.load(2, 4), Sections.store(2, 8), Sections.store(2, 63));
        Sections.lock(x, 0, Sections.loadi(0, 9), Sections.store(0, 63), Sections.addi(0, 1), Sections.store(0, 62));
        Sections.steps(x, 0, 2);
        return x;
    }
}
