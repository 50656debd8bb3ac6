import java.util.Arrays;

/** Prints every answer that is not the one due, and ends the test with exit code 1 if there was one. */
final class Check {
    /** Inputs that are neither a core nor a register, the nearest and the farthest. */
    static final int[] NOT_0_TO_3 = {-1, 4, 5, 16, -4, Integer.MIN_VALUE, Integer.MAX_VALUE};

    private int wrong = 0;
    private int looked = 0;

    void due(String what, long got, long want) {
        looked++;
        if (got != want) {
            wrong++;
            System.out.println(what + " answered " + got + ", due is " + want);
        }
    }

    void due(String what, boolean got, boolean want) {
        due(what, got ? 1L : 0L, want ? 1L : 0L);
    }

    void same(String what, int[] got, int[] want) {
        looked++;
        if (!Arrays.equals(got, want)) {
            wrong++;
            System.out.println(what + ": seen " + Arrays.toString(got) + ", due is " + Arrays.toString(want));
        }
    }

    boolean anyWrong() {
        return wrong != 0;
    }

    void end() {
        if (wrong != 0 || looked == 0) {
            System.out.println(wrong + " of " + looked + " answers are not as due");
            System.exit(1);
        }
        System.out.println(looked + " answers are as due");
    }
}
