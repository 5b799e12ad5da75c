/** The boundary cases that the document names in promises 14, 16 and 17: sends, and the agents that carry them out. */
public final class AgentsBoundariesTest {
    private static final Sentences TEST = new Sentences();

    private static void sendInATransaction() {
        TEST.sentence("14 send",
            "To the list of the open transaction's sends: FULL if it has 6, else answers its length then.");
        TEST.runForEach("A", 1, """
            begin 0
            send 0 A 1 1 -> 1
            4 x send 0 A 1 1 -> 2..5
            send 0 A 1 1 -> 6
            send 0 A 1 100 -> FULL
            waiting A -> 0
            finish 0 true -> 1
            waiting A -> 6
            6 x act A -> 1
            act A -> 0
            """);
        TEST.run("begin 0; 6 x send 0 0 1 1; send 0 0 1 100 -> FULL; send 0 1 1 100 -> FULL; finish 0 true -> 1;"
            + "waiting 0 -> 6; waiting 1 -> 0; 6 x act 0 -> 1; seen -1 4 -> 1:6");
        TEST.sentence("14 send", "To the list of the open transaction's sends: whatever waits for the agent");
        TEST.run("""
            8 x send -1 0 1 1; begin 0; send 0 0 1 1 -> 1; 5 x send 0 0 1 1 -> 2..6; waiting 0 -> 8
            finish 0 true -> FULL
            """);
        TEST.sentence("14 send", "To the list of the open transaction's sends: any ints");
        TEST.run("""
            begin 0; send 0 0 MIN MAX; send 0 0 MAX MIN; send 0 0 0 0; finish 0 true; 3 x act 0 -> 1
            seen -1 4 -> MIN:MAX 0:0 MAX:MIN
            """);
    }

    private static void sendAtOnce() {
        TEST.sentence("14 send",
            "the action joins the agent's queue at once; FULL if 8 wait there, else answers how many wait then");
        TEST.runForEach("A", 1, """
            send -1 A 1 1 -> 1
            waiting A -> 1
            6 x send -1 A 1 1 -> 2..7
            send -1 A 1 1 -> 8
            send -1 A 1 100 -> FULL
            waiting A -> 8
            act A -> 1
            send -1 A 1 1 -> 8
            send -1 A 1 100 -> FULL
            8 x act A -> 1
            act A -> 0
            send -1 A 1 1 -> 1
            """);
        TEST.sentence("14 send", "Transaction -1: also while transactions are open");
        TEST.run("""
            begin 0; begin 1; begin 2; send 0 0 1 1 -> 1; send -1 0 2 2 -> 1; send -1 0 2 2 -> 2
            send 0 0 1 1 -> 2; waiting 0 -> 2
            """);
        TEST.sentence("14 send", "Transaction -1: any ints");
        TEST.run("send -1 1 MIN MAX; send -1 1 MAX MIN; 2 x act 1 -> 1; seen -1 5 -> MIN:MAX MAX:MIN");
    }

    // Each action has a key of its own, so that the map tells which ones have been carried out.
    private static void oldestFirst() {
        TEST.sentence("16 act", "The agent's oldest waiting action is taken from its queue: one of 8");
        for (int agent = 0; agent < 2; agent++) {
            StringBuilder script = new StringBuilder();
            for (int key = 0; key < 8; key++) {
                script.append("send -1 A " + key + " " + key + ";");
            }
            for (int done = 0; done < 8; done++) {
                script.append("act A -> 1; waiting A -> " + (7 - done) + ";");
                script.append("seen -1 " + (4 + agent) + " -> 0.." + done + ";");
            }
            TEST.run(Sentences.with("A", agent, script + "act A -> 0; waiting A -> 0"));
        }
        TEST.sentence("16 act", "The agent's oldest waiting action is taken from its queue: while others join it");
        for (int waiting = 0; waiting < 8; waiting++) {
            TEST.run(roundTheQueue(waiting));
        }
    }

    // Every action has a delta of its own, so that the sum tells which ones have been carried out.
    private static String roundTheQueue(int waiting) {
        StringBuilder script = new StringBuilder();
        int sent = 0;
        while (sent < waiting) {
            sent++;
            script.append("send -1 0 1 " + sent + ";");
        }
        int sum = 0;
        for (int done = 1; done <= 20; done++) {
            sent++;
            sum += done;
            script.append("send -1 0 1 " + sent + " -> " + (waiting + 1) + "; act 0 -> 1; seen -1 4 -> 1:" + sum + ";");
        }
        return script.toString();
    }

    private static void impossibleActions() {
        TEST.sentence("16 act", "if that is impossible: FULL (the action is gone all the same)");
        for (int agent = 0; agent < 2; agent++) {
            String full = States.filledAgent(agent, 10);
            TEST.run(full + Sentences.with("A", agent, """
                send -1 A 10 1; send -1 A 9 1; send -1 A -1 1; send -1 A 0 7
                waiting A -> 4
                act A -> FULL
                waiting A -> 3
                act A -> 1
                waiting A -> 2
                act A -> FULL
                act A -> 1
                waiting A -> 0
                act A -> 0
                """) + "seen -1 " + (4 + agent) + " -> 0:7 1:1 2:2 3:3 4:4 5:5 6:6 7:7 8:8 9:10");
            // As if it had never been sent.
            TEST.haveTheSameEffect(full, "send -1 " + agent + " 10 1; act " + agent + " -> FULL", "");
            TEST.haveTheSameEffect(full + "send -1 " + agent + " 10 1; send -1 " + agent + " 5 5;",
                "act " + agent + " -> FULL; act " + agent + " -> 1", "act " + agent + "; act " + agent);
        }
        TEST.sentence("16 act", "if that is impossible: FULL: not with one place left");
        TEST.run(States.filledAgent(0, 9) + """
            send -1 0 9 9; act 0 -> 1; send -1 0 10 0; act 0 -> FULL
            seen -1 4 -> 0..9
            """);
        TEST.sentence("16 act", "if that is impossible: FULL: with 8 that wait");
        TEST.run(States.filledAgent(1, 10) + """
            8 x send -1 1 10 1 -> 1..8; 8 x act 1 -> FULL; act 1 -> 0
            seen -1 5 -> 0..9
            send -1 1 3 0 -> 1; act 1 -> 1
            """);
    }

    private static void noneWaits() {
        TEST.sentence("16 act", "0 if none waits.");
        TEST.runForEach("A", 1, """
            act A -> 0; send -1 A 1 1; act A -> 1; act A -> 0; act A -> 0; waiting A -> 0
            send -1 A 1 1 -> 1
            """);
        TEST.run("8 x send -1 0 1 1; act 1 -> 0; waiting 0 -> 8");
        TEST.run(States.filledAgent(0, 10) + "act 0 -> 0; seen -1 4 -> 0..9");
        TEST.sentence("16 act", "0 if none waits: a send in a transaction waits only after its success");
        TEST.run("""
            begin 0; send 0 0 1 1; act 0 -> 0; finish 0 false -> 0; act 0 -> 0; begin 0; send 0 0 1 1
            finish 0 true; act 0 -> 1
            """);
    }

    private static void waiting() {
        TEST.sentence("17 waiting", "How many actions wait for the agent");
        for (int agent = 0; agent < 2; agent++) {
            StringBuilder script = new StringBuilder();
            for (int count = 0; count < 8; count++) {
                script.append("waiting A -> " + count + "; waiting B -> 0; send -1 A 1 1;");
            }
            script.append("waiting A -> 8; send -1 A 1 1 -> FULL; waiting A -> 8;");
            for (int count = 7; count >= 0; count--) {
                script.append("act A; waiting A -> " + count + ";");
            }
            TEST.run(Sentences.with("A", agent, Sentences.with("B", 1 - agent, script + "act A; waiting A -> 0")));
        }
    }

    public static void main(String[] args) {
        sendInATransaction();
        sendAtOnce();
        oldestFirst();
        impossibleActions();
        noneWaits();
        waiting();
        TEST.end();
    }
}
