import java.util.function.Supplier;

/** Promise 6 (poke) and promise 7 (peek). */
public final class MemoryTest {
    private static final Check CHECK = new Check();
    private static final int[] NOT_AN_ADDRESS = {-1, 64, 65, 127, 128, 256, -63, -64, 1 << 30, Integer.MIN_VALUE,
        Integer.MAX_VALUE};

    public static void main(String[] args) {
        CHECK.sentence("`poke(addr, value)` sets memory[addr] = value and answers true.", MemoryTest::pokeSetsTheWord);
        String refusal = "It answers false and changes nothing if addr is not in 0..63, or if some core is in SPEC or LOCKED.";
        CHECK.sentence(refusal, MemoryTest::pokeOfAWrongAddress);
        CHECK.sentence(refusal, MemoryTest::pokeBesideARunningCore);
        CHECK.sentence("Nothing but that one memory word changes.", MemoryTest::pokeChangesOneWord);
        CHECK.sentence("`peek(addr)` answers the memory word at addr, not including buffered speculative values.",
                MemoryTest::peekDoesNotSeeBuffers);
        CHECK.sentence("It answers 0 if addr is not in 0..63.", MemoryTest::peekOfAWrongAddress);
        CHECK.sentence("peek: It changes nothing.", MemoryTest::peekChangesNothing);
        CHECK.end();
    }

    private static void pokeSetsTheWord() {
        LockElision x = Pasts.fresh();
        for (int addr = 0; addr < 64; addr++) {
            for (int value : new int[] {1, -1, Integer.MIN_VALUE, Integer.MAX_VALUE, 0, 77 + addr}) {
                CHECK.due("poke(" + addr + ", " + value + ")", x.poke(addr, value), true);
                CHECK.due("peek(" + addr + ")", x.peek(addr), value);
            }
        }
        for (int addr = 0; addr < 64; addr++) {
            CHECK.due("peek(" + addr + ") after all pokes", x.peek(addr), 77 + addr);
        }
    }

    private static void pokeOfAWrongAddress() {
        for (Supplier<LockElision> past : Pasts.all()) {
            for (int addr : NOT_AN_ADDRESS) {
                pokeRefused(past, addr);
            }
        }
        for (int addr : NOT_AN_ADDRESS) {
            pokeRefused(MemoryTest::thousands, addr);
        }
    }

    private static LockElision thousands() {
        LockElision x = Pasts.fresh();
        for (int addr = 0; addr < 64; addr++) {
            Sections.must(x.poke(addr, 1000 + addr));
        }
        return x;
    }

    private static void pokeRefused(Supplier<LockElision> past, int addr) {
        Twins.changesNothing(CHECK, "poke(" + addr + ", 5)", past, x -> x.poke(addr, 5) ? 1 : 0, 0);
    }

    /** Each core in turn goes through all states; a poke is refused in SPEC and LOCKED and in no other. */
    private static void pokeBesideARunningCore() {
        for (int core = 0; core < 4; core++) {
            LockElision x = Pasts.fresh();
            poked(x, "IDLE with no program", true);
            Sections.start(x, core, Sections.xabort(0));
            poked(x, "READY", true);
            x.step(core);
            poked(x, "SPEC", false);
            x.step(core);
            poked(x, "WAITLOCK", true);
            x.step(core);
            poked(x, "LOCKED", false);
            x.step(core);
            poked(x, "LOCKED at the end", false);
            x.step(core);
            poked(x, "IDLE", true);
        }
        for (int addr : new int[] {0, 5, 60, 63}) {
            pokeRefused(Pasts::speculating, addr);
            pokeRefused(Pasts::locked, addr);
        }
    }

    private static void poked(LockElision x, String state, boolean want) {
        for (int addr : new int[] {0, 33, 63}) {
            int[] due = Sections.seen(x);
            due[Sections.MEMORY + addr] += want ? 1 : 0;
            CHECK.due("poke beside a core in " + state, x.poke(addr, x.peek(addr) + 1), want);
            CHECK.same("poke beside a core in " + state, Sections.seen(x), due);
        }
    }

    /** One core is READY and one in WAITLOCK, and their sections go on as if the word had always been so. */
    private static void pokeChangesOneWord() {
        for (int addr = 0; addr < 64; addr++) {
            LockElision x = waiting();
            int[] want = Sections.seen(x);
            want[Sections.MEMORY + addr] = -3;
            CHECK.due("poke(" + addr + ", -3)", x.poke(addr, -3), true);
            CHECK.same("poke(" + addr + ", -3)", Sections.seen(x), want);
            LockElision twin = waiting();
            Sections.must(x.poke(addr, 1000 + addr));
            Twins.sameFuture(CHECK, "a poke of " + addr + " and back", x, twin);
        }
    }

    private static LockElision waiting() {
        LockElision x = thousands();
        Sections.start(x, 0, Sections.load(0, 4), Sections.addi(0, 1), Sections.store(0, 4));
        Sections.speculate(x, 1, 2, Sections.loadi(2, 8), Sections.store(2, 63), Sections.xabort(6));
        Sections.must(x.step(1) == LockElision.STEP_ABORTED);
        return x;
    }

    private static void peekDoesNotSeeBuffers() {
        for (int addr = 0; addr < 64; addr++) {
            LockElision x = new LockElision(4, 4, 2);
            x.poke(addr, 70);
            for (int core = 0; core < 4; core++) {
                Sections.speculate(x, core, 2, Sections.loadi(0, 71 + core), Sections.store(0, addr));
                CHECK.due("peek(" + addr + ") beside a buffered store", x.peek(addr), 70 + core);
                x.step(core);
                CHECK.due("peek(" + addr + ") after the commit", x.peek(addr), 71 + core);
            }
        }
    }

    private static void peekOfAWrongAddress() {
        LockElision x = thousands();
        for (int addr : NOT_AN_ADDRESS) {
            CHECK.due("peek(" + addr + ")", x.peek(addr), 0);
        }
        CHECK.due("peek(0)", x.peek(0), 1000);
        CHECK.due("peek(63)", x.peek(63), 1063);
    }

    private static void peekChangesNothing() {
        for (Supplier<LockElision> past : Pasts.all()) {
            for (int addr : new int[] {-1, 0, 5, 60, 63, 64, Integer.MIN_VALUE, Integer.MAX_VALUE}) {
                int want = past.get().peek(addr);
                Twins.changesNothing(CHECK, "peek(" + addr + ")", past, x -> x.peek(addr), want);
            }
        }
    }
}
