/** Counts the answers of a test, and tells those that are not as due. */
final class Check {
    private int asked;
    private int wrong;

    void due(String call, long got, long want) {
        asked++;
        if (got != want) {
            wrong++;
            System.out.println(call + " answered " + got + ", due is " + want);
        }
    }

    /** A run of answers, such as the four parts of a rectangle. */
    void due(String call, int[] got, int... want) {
        asked++;
        if (!java.util.Arrays.equals(got, want)) {
            wrong++;
            System.out.println(call + " answered " + java.util.Arrays.toString(got) + ", due is "
                + java.util.Arrays.toString(want));
        }
    }

    void refused(String call, Class<? extends RuntimeException> want, Runnable made) {
        asked++;
        String got = "nothing";
        try {
            made.run();
        } catch (RuntimeException e) {
            got = e.getClass().getName();
        }
        if (!got.equals(want.getName())) {
            wrong++;
            System.out.println(call + " threw " + got + ", due is " + want.getName());
        }
    }

    void end() {
        System.out.println(asked + " answers, " + wrong + " not as due");
        if (wrong != 0) {
            System.exit(1);
        }
    }
}
