/** Runs of calls that bring a new object into a state in which many things stand at their bounds. */
final class States {
    static final String NEW_OBJECT = "";
    static final String ALL_OPEN = "begin 0; begin 1; begin 2";

    /** Every map, list and queue is empty, has one place left, or just fits what a finish will bring. */
    static final String ONE_PLACE_LEFT = """
        fill 0 0 9
        fill 1 5 9
        fill 2 0 2
        begin 2; store 2 0 0; store 2 1 2; store 2 2 1; finish 2 true -> 1
        begin 0
        store 0 0 1 -> 9
        4 x adjust 0 1 0 1 -> 2
        3 x adjust 0 2 5 1 -> 9
        ensure 0 3
        5 x send 0 0 1 1 -> 1..5
        begin 1
        adjust 1 1 1 1 -> 2
        store 1 2 0 -> 9
        ensure 1 0
        send 1 1 7 7
        """ + filledAgent(0, 9) + """
        3 x send -1 0 3 3 -> 1..3
        7 x send -1 1 20 1 -> 1..7
        """;

    /** Nearly every map, list and queue is full. */
    static final String FULL_UP = """
        fill 0 0 10
        fill 1 5 10
        fill 2 0 9
        put 3 50 5
        begin 2; store 2 0 0; store 2 1 2; store 2 2 1; finish 2 true -> 1
        begin 0
        store 0 0 1 -> 10
        4 x adjust 0 1 0 1 -> 9
        4 x adjust 0 2 5 1 -> 10
        ensure 0 3
        3 x send 0 0 1 1 -> 1..3
        3 x send 0 1 2 2 -> 4..6
        begin 1
        store 1 1 0 -> 10
        adjust 1 2 5 1 -> 10
        ensure 1 0
        send 1 1 7 7
        """ + filledAgent(0, 10) + """
        8 x send -1 0 3 3 -> 1..8
        8 x send -1 1 20 1 -> 1..8
        """;

    static final String[] ALL = {NEW_OBJECT, ALL_OPEN, ONE_PLACE_LEFT, FULL_UP};

    private States() {
    }

    /** The agent gets the entries 0:0, 1:1, 2:2 and so on. */
    static String filledAgent(int agent, int count) {
        StringBuilder script = new StringBuilder();
        for (int key = 0; key < count; key++) {
            script.append("send -1 " + agent + " " + key + " " + key + "; act " + agent + " -> 1;");
        }
        return script.append("\n").toString();
    }
}
