/** Counts the calls whose answer is not the one that is due, and prints the first of them. */
final class Checks {
    private static final int MOST_PRINTED = 50;

    private int wrong = 0;
    private String part = "";

    void startPart(String name) {
        part = name;
    }

    void due(String call, long want, long got) {
        due(call, Long.toString(want), Long.toString(got));
    }

    void due(String call, boolean want, boolean got) {
        due(call, Boolean.toString(want), Boolean.toString(got));
    }

    void due(String call, String want, String got) {
        if (got.equals(want)) {
            return;
        }
        wrong++;
        if (wrong <= MOST_PRINTED) {
            System.out.println(part + ": " + call + " answered " + got + ", due is " + want);
        }
    }

    void end() {
        System.out.println(wrong == 0 ? "all answers are as due" : wrong + " answers are not as due");
        if (wrong != 0) {
            System.exit(1);
        }
    }
}
