import java.util.ArrayList;
import java.util.List;

/** Scripts that together bring to light all that an object holds: whoever answers all of them alike is alike. */
final class LaterRuns {
    private static final String HELD =
        "seen -1 0; seen -1 1; seen -1 2; seen -1 3; seen -1 4; seen -1 5; waiting 0; waiting 1;";
    private static final int[][] ORDERS = {{0, 1, 2}, {0, 2, 1}, {1, 0, 2}, {1, 2, 0}, {2, 0, 1}, {2, 1, 0}};

    static List<String> all() {
        List<String> runs = new ArrayList<>();
        runs.add("map 0; map 1; map 2; map 3");
        runs.add(HELD);
        runs.add("waiting 0; act 0; seen -1 4;".repeat(9));
        runs.add("waiting 1; act 1; seen -1 5;".repeat(9));
        for (int transaction = 0; transaction < 3; transaction++) {
            addRunsOf(runs, transaction);
        }
        // Who is in conflict with whom shows in each order of the finishes.
        for (int[] order : ORDERS) {
            StringBuilder finishes = new StringBuilder();
            for (int transaction : order) {
                finishes.append("finish " + transaction + " true;");
            }
            runs.add(finishes + HELD);
        }
        return runs;
    }

    private static void addRunsOf(List<String> runs, int transaction) {
        runs.add(withTransaction(transaction, "seen T 0; seen T 1; seen T 2; seen T 3"));
        runs.add(withTransaction(transaction, "begin T; finish T true; 9 x act 0; 9 x act 1;" + HELD));
        // Which sends it has, though queues were full.
        runs.add(withTransaction(transaction, "9 x act 0; 9 x act 1; finish T true; waiting 0; waiting 1;"
            + "act 0; seen -1 4;".repeat(6) + "act 1; seen -1 5;".repeat(6)));
        // How many sends and adjustments still fit.
        runs.add(withTransaction(transaction, "7 x send T 0 5 5; finish T true;" + HELD));
        runs.add(withTransaction(transaction, "9 x adjust T 0 5 5; 9 x adjust T 1 5 5; 9 x adjust T 2 5 5;"
            + "9 x adjust T 3 5 5; finish T true;" + HELD));
        for (int ref = 0; ref < 4; ref++) {
            // Whether the ref is COMMUTED.
            runs.add(withTransaction(transaction, "store T " + ref + " 0; finish T true;" + HELD));
            // Whether it is WRITTEN or ENSURED.
            runs.add(withTransaction(transaction, "finish U false; begin U; store U " + ref + " 0; finish U true;"
                + "finish T true;" + HELD));
        }
    }

    private static String withTransaction(int transaction, String script) {
        String other = Sentences.with("U", (transaction + 1) % 3, script);
        return Sentences.with("T", transaction, other);
    }
}
