import java.util.ArrayList;
import java.util.List;
import java.util.TreeMap;
import java.util.TreeSet;

/** The document written a second time, with lists, maps and sets, for ModelTest to compare with. */
final class Model {
    static final int IDLE = 0;
    static final int READY = 1;
    static final int SPEC = 2;
    static final int WAITLOCK = 3;
    static final int LOCKED = 4;

    private static final int CONFLICT = 1;
    private static final int CAPACITY = 2;
    private static final int EXPLICIT = 3;
    private static final int LOCK = 4;

    /** Everything that one core has. */
    static final class Core {
        final List<int[]> program = new ArrayList<>();
        final TreeSet<Integer> reads = new TreeSet<>();
        final TreeSet<Integer> writes = new TreeSet<>();
        final TreeMap<Integer, Integer> buffer = new TreeMap<>();
        int state = IDLE;
        int pc = 0;
        int[] regs = new int[4];
        int[] results = new int[4];
        int attempts = 0;
        int cause = 0;
        int code = 0;
        int elided = 0;
        int locked = 0;
        int aborts = 0;

        void fresh() {
            pc = 0;
            regs = new int[4];
        }

        void forget() {
            reads.clear();
            writes.clear();
            buffer.clear();
        }

        TreeSet<Integer> footprint() {
            TreeSet<Integer> lines = new TreeSet<>(reads);
            lines.addAll(writes);
            return lines;
        }
    }

    final Core[] cores = {new Core(), new Core(), new Core(), new Core()};
    final int[] memory = new int[64];
    int owner = -1;
    private final int ways;
    private final int sets;
    private final int retries;

    Model(int ways, int sets, int retries) {
        this.ways = Math.max(1, Math.min(4, ways));
        this.sets = Math.max(1, Math.min(4, sets));
        this.retries = Math.max(0, Math.min(7, retries));
    }

    private static boolean within(long value, long least, long most) {
        return least <= value && value <= most;
    }

    int append(int core, int op, int a, int b) {
        if (!within(core, 0, 3) || cores[core].state != IDLE || cores[core].program.size() == 16) {
            return -1;
        }
        if (!within(op, 0, 8) || !within(a, 0, 3)) {
            return -1;
        }
        boolean fits = switch (op) {
            case 1, 2 -> within(b, 0, 63);
            case 3, 5, 6 -> within(b, 0, 3);
            case 8 -> within(b, 1, 16);
            default -> true;
        };
        if (!fits) {
            return -1;
        }
        cores[core].program.add(new int[] {op, a, b});
        return cores[core].program.size();
    }

    boolean clearProgram(int core) {
        if (!within(core, 0, 3) || cores[core].state != IDLE) {
            return false;
        }
        cores[core].program.clear();
        return true;
    }

    boolean enter(int core) {
        if (!within(core, 0, 3) || cores[core].state != IDLE || cores[core].program.isEmpty()) {
            return false;
        }
        Core x = cores[core];
        x.state = READY;
        x.fresh();
        x.attempts = 0;
        x.cause = 0;
        x.code = 0;
        return true;
    }

    boolean poke(int addr, int value) {
        for (Core x : cores) {
            if (x.state == SPEC || x.state == LOCKED) {
                return false;
            }
        }
        if (!within(addr, 0, 63)) {
            return false;
        }
        memory[addr] = value;
        return true;
    }

    int step(int core) {
        if (!within(core, 0, 3)) {
            return -1;
        }
        Core x = cores[core];
        if (x.state == IDLE) {
            return 0;
        }
        if (x.state == READY || x.state == WAITLOCK) {
            return owner != -1 ? 1 : x.state == READY ? begin(x) : acquire(x, core);
        }
        if (x.pc == x.program.size()) {
            return finish(x);
        }
        int[] instruction = x.program.get(x.pc);
        if (x.state == SPEC && instruction[0] == 7) {
            abort(x, EXPLICIT, instruction[2]);
            return 5;
        }
        return execute(x, instruction[0], instruction[1], instruction[2]);
    }

    private int begin(Core x) {
        x.state = SPEC;
        x.fresh();
        x.forget();
        x.reads.add(16);
        return 2;
    }

    private int acquire(Core x, int core) {
        owner = core;
        for (Core y : cores) {
            if (y != x && y.state == SPEC) {
                abort(y, LOCK, 0);
            }
        }
        x.state = LOCKED;
        x.fresh();
        return 3;
    }

    private int finish(Core x) {
        boolean elided = x.state == SPEC;
        if (elided) {
            x.buffer.forEach((addr, value) -> memory[addr] = value);
            x.forget();
            x.elided++;
        } else {
            owner = -1;
            x.locked++;
        }
        x.results = x.regs.clone();
        x.state = IDLE;
        return elided ? 6 : 7;
    }

    private int execute(Core x, int op, int a, int b) {
        int next = x.pc + 1;
        switch (op) {
            case 0 -> x.regs[a] = b;
            case 3 -> x.regs[a] = x.regs[a] + x.regs[b];
            case 4 -> x.regs[a] = x.regs[a] + b;
            case 8 -> next = x.regs[a] == 0 ? next : Math.min(x.pc + b, x.program.size());
            case 7 -> { }
            default -> {
                int addr = op <= 2 ? b : Math.floorMod(x.regs[b], 64);
                boolean store = op == 2 || op == 6;
                if (x.state == SPEC && !claim(x, addr / 4, store)) {
                    return 5;
                }
                access(x, a, addr, store);
            }
        }
        x.pc = next;
        return 4;
    }

    /** Takes the line into the footprint against all others, or aborts for want of room and answers false. */
    private boolean claim(Core x, int line, boolean store) {
        long held = x.footprint().stream().filter(l -> setOf(l) == setOf(line)).count();
        if (!x.footprint().contains(line) && held == ways) {
            abort(x, CAPACITY, 0);
            return false;
        }
        for (Core y : cores) {
            boolean hit = store ? y.footprint().contains(line) : y.writes.contains(line);
            if (y != x && y.state == SPEC && hit) {
                abort(y, CONFLICT, 0);
            }
        }
        (store ? x.writes : x.reads).add(line);
        return true;
    }

    private int setOf(int line) {
        return line == 16 ? 0 : line % sets;
    }

    private void access(Core x, int a, int addr, boolean store) {
        if (store && x.state == SPEC) {
            x.buffer.put(addr, x.regs[a]);
        } else if (store) {
            memory[addr] = x.regs[a];
        } else {
            x.regs[a] = x.buffer.getOrDefault(addr, memory[addr]);
        }
    }

    private void abort(Core x, int cause, int code) {
        x.forget();
        x.fresh();
        x.attempts++;
        x.aborts++;
        x.cause = cause;
        x.code = code;
        x.state = cause == CAPACITY || cause == EXPLICIT || x.attempts > retries ? WAITLOCK : READY;
    }

    /** The same list of answers as Sections.seen gives for the real object. */
    int[] seen() {
        int[] all = new int[Sections.part(4)];
        all[0] = owner;
        System.arraycopy(memory, 0, all, Sections.MEMORY, 64);
        for (int core = 0; core < 4; core++) {
            Core x = cores[core];
            int at = Sections.part(core);
            all[at + Sections.STATE] = x.state;
            all[at + Sections.PC] = x.pc;
            all[at + Sections.ATTEMPTS] = x.attempts;
            all[at + Sections.CAUSE] = x.cause;
            all[at + Sections.CODE] = x.code;
            System.arraycopy(x.regs, 0, all, at + Sections.REG, 4);
            System.arraycopy(x.results, 0, all, at + Sections.RESULT, 4);
            all[at + Sections.COUNT] = x.elided;
            all[at + Sections.COUNT + 1] = x.locked;
            all[at + Sections.COUNT + 2] = x.aborts;
            for (int line : x.reads) {
                all[at + Sections.LINE + line] |= 1;
            }
            for (int line : x.writes) {
                all[at + Sections.LINE + line] |= 2;
            }
        }
        return all;
    }
}
