/** Promise 6 (poke) and promise 7 (peek). */
public final class MemoryTest {
    private static final Check CHECK = new Check();
    private static final int[] NOT_AN_ADDRESS = {-1, 64, 65, 128, -64, Integer.MIN_VALUE, Integer.MAX_VALUE};

    public static void main(String[] args) {
        pokeAndPeekEveryWord();
        wrongAddresses();
        pokeByState();
        peekDoesNotSeeBuffers();
        CHECK.end();
    }

    private static void pokeAndPeekEveryWord() {
        LockElision x = new LockElision(2, 2, 2);
        int[] want = Sections.seen(x);
        int[] values = {1, -1, Integer.MIN_VALUE, Integer.MAX_VALUE, 77};
        for (int addr = 0; addr < 64; addr++) {
            for (int value : values) {
                CHECK.due("poke(" + addr + ", " + value + ")", x.poke(addr, value + addr), true);
                CHECK.due("peek(" + addr + ")", x.peek(addr), value + addr);
            }
            want[Sections.MEMORY + addr] = 77 + addr;
            CHECK.same("poke changes one word", Sections.seen(x), want);
        }
    }

    private static void wrongAddresses() {
        LockElision x = new LockElision(2, 2, 2);
        for (int addr = 0; addr < 64; addr++) {
            x.poke(addr, 1000 + addr);
        }
        int[] before = Sections.seen(x);
        for (int addr : NOT_AN_ADDRESS) {
            CHECK.due("poke(" + addr + ", 5)", x.poke(addr, 5), false);
            CHECK.due("peek(" + addr + ")", x.peek(addr), 0);
        }
        CHECK.same("after wrong addresses", Sections.seen(x), before);
    }

    private static void pokeByState() {
        for (int core = 0; core < 4; core++) {
            LockElision x = new LockElision(2, 2, 2);
            Sections.start(x, core, Sections.xabort(0));
            poked(x, "READY", true);
            x.step(core);
            poked(x, "SPEC", false);
            x.step(core);
            poked(x, "WAITLOCK", true);
            x.step(core);
            poked(x, "LOCKED", false);
            x.step(core);
            poked(x, "LOCKED at the end", false);
            x.step(core);
            poked(x, "IDLE", true);
        }
    }

    private static void poked(LockElision x, String state, boolean want) {
        int[] due = Sections.seen(x);
        due[Sections.MEMORY + 33] += want ? 1 : 0;
        CHECK.due("poke beside a core in " + state, x.poke(33, x.peek(33) + 1), want);
        CHECK.same("poke beside a core in " + state, Sections.seen(x), due);
    }

    private static void peekDoesNotSeeBuffers() {
        LockElision x = new LockElision(4, 4, 2);
        x.poke(7, 70);
        Sections.speculate(x, 2, 2, Sections.loadi(0, 71), Sections.store(0, 7));
        CHECK.due("peek beside a buffered store", x.peek(7), 70);
        x.step(2);
        CHECK.due("peek after the commit", x.peek(7), 71);
    }
}
