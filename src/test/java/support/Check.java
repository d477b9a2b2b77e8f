/** Counts the answers of a test, and tells those that are not as due. */
final class Check {
    private int asked;
    private int wrong;
    private int sentences;
    private String by = "";

    /** The document's words by which the answers that follow are due. */
    void sentence(String promise, String words) {
        sentences++;
        by = promise + " \"" + words + "\": ";
    }

    /** Runs each test, also behind one that is stopped by an exception that is not due. */
    void each(Runnable... tests) {
        for (Runnable test : tests) {
            by = "";
            try {
                test.run();
            } catch (RuntimeException e) {
                wrong++;
                System.out.println(by + "stopped by " + e);
                e.printStackTrace(System.out);
            }
        }
    }

    void due(String call, long got, long want) {
        asked++;
        if (got != want) {
            wrong++;
            System.out.println(by + call + " answered " + got + ", due is " + want);
        }
    }

    /** A run of answers, such as the four parts of a rectangle. */
    void due(String call, int[] got, int... want) {
        asked++;
        if (!java.util.Arrays.equals(got, want)) {
            wrong++;
            System.out.println(by + call + " answered " + java.util.Arrays.toString(got) + ", due is "
                + java.util.Arrays.toString(want));
        }
    }

    void refused(String call, Class<? extends RuntimeException> want, Runnable made) {
        asked++;
        String got = "nothing";
        try {
            made.run();
        } catch (RuntimeException e) {
            got = e.getClass().getName();
        }
        if (!got.equals(want.getName())) {
            wrong++;
            System.out.println(by + call + " threw " + got + ", due is " + want.getName());
        }
    }

    void end() {
        String told = sentences == 0 ? "" : sentences + " sentences, ";
        System.out.println(told + asked + " answers, " + wrong + " not as due");
        if (wrong != 0) {
            System.exit(1);
        }
    }
}
