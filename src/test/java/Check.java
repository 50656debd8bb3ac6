import java.util.Arrays;

/** Prints every answer that is not the one due, and ends the test with exit code 1 if there was one. */
final class Check {
    /** Inputs that are neither a core nor a register: the nearest, the farthest, and some that wrap when multiplied. */
    static final int[] NOT_0_TO_3 = {-1, 4, 5, 16, -4, 1 << 28, 1 << 30, Integer.MIN_VALUE, Integer.MAX_VALUE};

    private int wrong = 0;
    private int looked = 0;

    /** Runs the test of one sentence of the document; what it finds wrong is told under that sentence. */
    void sentence(String words, Runnable test) {
        int wrongBefore = wrong;
        int lookedBefore = looked;
        try {
            test.run();
        } catch (RuntimeException broken) {
            due("the test broke off with " + broken, true, false);
        }
        due("the test looked at something", looked > lookedBefore, true);
        if (wrong != wrongBefore) {
            System.out.println("  so this does not hold: " + words);
        }
    }

    boolean due(String what, long got, long want) {
        looked++;
        if (got != want) {
            wrong++;
            System.out.println(what + " answered " + got + ", due is " + want);
        }
        return got == want;
    }

    boolean due(String what, boolean got, boolean want) {
        return due(what, got ? 1L : 0L, want ? 1L : 0L);
    }

    boolean same(String what, int[] got, int[] want) {
        looked++;
        boolean equal = Arrays.equals(got, want);
        if (!equal) {
            wrong++;
            System.out.println(what + ": seen " + Arrays.toString(got) + ", due is " + Arrays.toString(want));
        }
        return equal;
    }

    boolean anyWrong() {
        return wrong != 0;
    }

    void end() {
        if (wrong != 0 || looked == 0) {
            System.out.println(wrong + " of " + looked + " answers are not as due");
            System.exit(1);
        }
        System.out.println(looked + " answers are as due");
    }
}
