/** Counts the answers of one test and prints those that are not due. */
final class Due {
    private static int asked;
    private static int wrong;

    private Due() {
    }

    static void due(String call, int got, int want) {
        asked++;
        if (got != want) {
            wrong++;
            System.out.println("  " + call + " answered " + told(got) + ", due is " + told(want));
        }
    }

    static void due(String what, boolean so) {
        due(what, so ? 1 : 0, 1);
    }

    /** Ends the test: with exit code 1 if an answer was wrong, or if none was asked for. */
    static void end(String test) {
        System.out.println("  " + test + ": " + asked + " answers, " + wrong + " wrong");
        if (wrong != 0 || asked == 0) {
            System.exit(1);
        }
    }

    private static String told(int answer) {
        switch (answer) {
            case OneStroke.BAD: return "BAD";
            case OneStroke.NO: return "NO";
            case OneStroke.FULL: return "FULL";
            case OneStroke.NONE: return "NONE";
            case OneStroke.NOTHING: return "NOTHING";
            case OneStroke.KIND: return "KIND";
            case OneStroke.INDEX: return "INDEX";
            case OneStroke.SIZE: return "SIZE";
            default: return Integer.toString(answer);
        }
    }
}
