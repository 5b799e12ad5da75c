/** The boundary cases that the document names in promise 15: the cases of finish, and their order. */
public final class FinishBoundariesTest {
    private static final Sentences TEST = new Sentences();

    /** Transaction 0 with something of each sort, and transaction 1, which would see if any of it had an effect. */
    private static final String BUSY = """
        put 0 1 10; put 1 2 20
        begin 1; store 1 1 1; store 1 2 1; ensure 1 3; adjust 1 0 9 9
        begin 0; store 0 1 0; adjust 0 0 5 5; store 0 3 1; adjust 0 2 1 1; adjust 0 0 6 6
        3 x send 0 0 7 7; 3 x send 0 1 8 8
        """;
    private static final String MAKES_CONFLICT = "ensure 0 0; begin 2; adjust 2 0 4 4; finish 2 true -> 1;";
    private static final String MAKES_IMPOSSIBLE = "fill 2 20 10; begin 2; store 2 0 2; finish 2 true -> 1;";
    private static final String FILLS_AGENT_0 = "6 x send -1 0 1 1;";
    private static final String FILLS_AGENT_1 = "6 x send -1 1 1 1;";

    private static void ends() {
        TEST.sentence("15 finish", "Ends the open transaction; it is not open afterwards, whatever is answered.");
        String[] cases = {
            "finish 0 true -> 1",
            "finish 0 false -> 0",
            MAKES_CONFLICT + "finish 0 true -> CONFLICT",
            MAKES_IMPOSSIBLE + "finish 0 true -> FULL",
            FILLS_AGENT_0 + "finish 0 true -> FULL",
            FILLS_AGENT_1 + "finish 0 true -> FULL"};
        String[] calls = {
            "finish 0 true", "finish 0 false", "load 0 0 2", "store 0 0 2", "adjust 0 0 1 1", "ensure 0 0", "send 0 0 1 1"};
        for (String ending : cases) {
            for (String call : calls) {
                TEST.run(BUSY + ending + ";" + call + " -> REFUSED");
            }
            TEST.run(BUSY + ending + "; begin 0 -> true; begin 0 -> false; send 0 0 1 1 -> 1; store 0 0 3 -> 0");
        }
        TEST.sentence("15 finish", "Ends the open transaction: no other one");
        TEST.run("""
            begin 0; begin 1; begin 2; finish 1 true -> 1; begin 0 -> false; begin 2 -> false
            begin 1 -> true; finish 0 false -> 0; begin 1 -> false; begin 2 -> false; finish 2 true -> 1
            begin 1 -> false
            """);
    }

    private static void withoutCommit() {
        TEST.sentence("15 finish", "commit false: no effect, answers 0.");
        String before = "put 0 1 10; put 1 2 20; begin 1; store 1 1 1; store 1 2 1; ensure 1 3; adjust 1 0 9 9;";
        String busy = "begin 0; store 0 1 0; adjust 0 0 5 5; store 0 3 1; adjust 0 2 1 1; ensure 0 0;"
            + "3 x send 0 0 7 7; 3 x send 0 1 8 8;";
        TEST.haveTheSameEffect(before, busy + "finish 0 false -> 0", "");
        TEST.haveTheSameEffect("", "begin 0; finish 0 false -> 0", "");
        TEST.sentence("15 finish", "commit false: no effect, answers 0: also where commit true would answer otherwise");
        TEST.run(BUSY + MAKES_CONFLICT + "finish 0 false -> 0");
        TEST.run(BUSY + MAKES_IMPOSSIBLE + "finish 0 false -> 0");
        TEST.run(BUSY + FILLS_AGENT_0 + "finish 0 false -> 0");
        TEST.run(BUSY + FILLS_AGENT_1 + "finish 0 false -> 0");
    }

    private static void conflicts() {
        TEST.sentence("15 finish", "some ref is CHANGED for it and is WRITTEN or ENSURED in it: CONFLICT");
        String[] standings = {"store 0 R 1;", "ensure 0 R;", "store 0 R 1; ensure 0 R;", "adjust 0 R 1 1; ensure 0 R;",
            "ensure 0 R; adjust 0 R 1 1;"};
        String written = "begin 1; store 1 R 0; finish 1 true -> 1;";
        String commuted = "begin 1; adjust 1 R 1 1; finish 1 true -> 1;";
        for (String standing : standings) {
            TEST.runForEach("R", 3, "begin 0;" + standing + "finish 0 true -> 1");
            TEST.runForEach("R", 3, "begin 0;" + standing + written + "finish 0 true -> CONFLICT");
            TEST.runForEach("R", 3, "begin 0;" + commuted + standing + "finish 0 true -> CONFLICT");
        }
        TEST.sentence("15 finish",
            "some ref is CHANGED for it and is WRITTEN or ENSURED in it: not one CHANGED and another WRITTEN");
        for (int changed = 0; changed < 4; changed++) {
            String others = "store 0 " + (changed + 1) % 4 + " 0; ensure 0 " + (changed + 3) % 4 + ";";
            TEST.run("begin 0;" + others + Sentences.with("R", changed, written) + "finish 0 true -> 1");
        }
        TEST.sentence("15 finish",
            "some ref is CHANGED for it and is WRITTEN or ENSURED in it: not if it is UNTOUCHED or COMMUTED");
        TEST.runForEach("R", 3, "begin 0; load 0 R 0; begin 1; store 1 R 0; finish 1 true; finish 0 true -> 1");
        TEST.runForEach("R", 3, """
            begin 0; adjust 0 R 1 1; begin 1; adjust 1 R 1 2; finish 1 true; finish 0 true -> 1
            seen -1 R -> 1:3
            """);
        TEST.sentence("15 finish", "CONFLICT: in this case there is no effect");
        TEST.haveTheSameEffect(BUSY + MAKES_CONFLICT, "finish 0 true -> CONFLICT", "finish 0 false");
        TEST.haveTheSameEffect(
            "begin 0; store 0 3 0; adjust 0 0 1 1; send 0 1 1 1; begin 1; store 1 3 0; finish 1 true; begin 1; store 1 0 0;",
            "finish 0 true -> CONFLICT", "finish 0 false");
    }

    private static void adjustedAnew() {
        TEST.sentence("15 finish",
            "For each COMMUTED ref the map that it holds now is adjusted by the recorded adjustments of that ref");
        TEST.runForEach("R", 3, """
            put 0 1 10; put 0 2 20
            begin 2; store 2 R 0; finish 2 true
            begin 0
            adjust 0 R 1 1; adjust 0 R 3 3; adjust 0 R 1 1; adjust 0 R 2 -20
            begin 2; put 0 1 100; remove 0 2; put 0 4 4; store 2 R 0; finish 2 true -> 1
            seen 0 R -> 1:12 2:0 3:3
            finish 0 true -> 1
            seen -1 R -> 1:102 2:-20 3:3 4:4
            """);
        TEST.run("""
            begin 0; begin 1; begin 2; 2 x adjust 0 0 1 1; 2 x adjust 0 3 3 3; 4 x adjust 1 0 1 10
            4 x adjust 1 3 3 30; 8 x adjust 2 3 3 MAX; finish 2 true -> 1; finish 1 true -> 1
            finish 0 true -> 1; seen -1 0 -> 1:42; seen -1 1 -> empty; seen -1 3 -> 3:118
            """);
        TEST.sentence("15 finish",
            "impossible: FULL: the map that the ref holds now has 9 entries and gets one or two");
        TEST.runForEach("R", 3, """
            fill 0 0 9; begin 0; adjust 0 R 20 1; adjust 0 R 8 1; adjust 0 R 20 1; begin 2; store 2 R 0
            finish 2 true; finish 0 true -> 1; seen -1 R -> 0..7 8:9 20:2
            """);
        TEST.runForEach("R", 3, """
            fill 0 0 9; begin 0; adjust 0 R 20 1; adjust 0 R 21 1; begin 2; store 2 R 0; finish 2 true
            finish 0 true -> FULL; seen -1 R -> 0..8
            """);
        TEST.sentence("15 finish", "impossible: FULL: the map that the ref holds now has 10 entries");
        TEST.runForEach("R", 3, """
            fill 0 0 10; begin 0; adjust 0 R 20 1; begin 2; store 2 R 0; finish 2 true
            finish 0 true -> FULL; seen -1 R -> 0..9
            """);
        TEST.runForEach("R", 3, """
            fill 0 0 10; begin 0; adjust 0 R 0 1; adjust 0 R 9 1; begin 2; store 2 R 0; finish 2 true
            finish 0 true -> 1; seen -1 R -> 0:1 1:1 2:2 3:3 4:4 5:5 6:6 7:7 8:8 9:10
            """);
        TEST.sentence("15 finish", "impossible: FULL: the key was there when the transaction began, but is not now");
        TEST.run("""
            fill 0 0 10; begin 2; store 2 0 0; finish 2 true; begin 0; adjust 0 0 5 1 -> 10; fill 1 20 10
            begin 2; store 2 0 1; finish 2 true; finish 0 true -> FULL; seen -1 0 -> 20..29
            """);
        TEST.sentence("15 finish", "impossible: FULL: the 8th adjustment of the list, or that of any ref");
        TEST.run("""
            fill 0 0 10; begin 0; 7 x adjust 0 0 1 1; adjust 0 0 20 1; begin 2; store 2 0 0; finish 2 true
            finish 0 true -> FULL; seen -1 0 -> 0..9
            """);
        TEST.runForEach("R", 3, """
            fill 0 0 10; begin 0; adjust 0 0 20 1; adjust 0 1 20 1; adjust 0 2 20 1; adjust 0 3 20 1
            begin 2; store 2 R 0; finish 2 true; finish 0 true -> FULL; begin 2; seen 2 0; seen 2 1
            seen -1 R -> 0..9
            """);
        TEST.sentence("15 finish", "impossible: FULL: in this case there is no effect");
        TEST.haveTheSameEffect(BUSY + MAKES_IMPOSSIBLE, "finish 0 true -> FULL", "finish 0 false");
        for (int ref = 0; ref < 4; ref++) {
            String before = """
                fill 0 0 10
                begin 0; adjust 0 0 20 1; adjust 0 1 20 1; adjust 0 2 20 1; adjust 0 3 20 1
                begin 1; store 1 0 1; ensure 1 1; ensure 1 2; ensure 1 3
                begin 2; store 2 R 0; finish 2 true -> 1
                """;
            TEST.haveTheSameEffect(Sentences.with("R", ref, before), "finish 0 true -> FULL", "finish 0 false");
        }
    }

    private static void tooManySends() {
        TEST.sentence("15 finish",
            "For some agent, the waiting actions and the sends to it are together more than 8: FULL.");
        for (int sends = 0; sends <= 6; sends++) {
            int room = 8 - sends;
            String before = "begin 0;" + sends + " x send 0 A 1 1;" + room + " x send -1 A 2 2;";
            TEST.runForEach("A", 1, before + "finish 0 true -> 1; waiting A -> 8; send -1 A 1 1 -> FULL");
            if (sends > 0) {
                TEST.runForEach("A", 1, before + "send -1 A 2 2; finish 0 true -> FULL; waiting A -> " + (room + 1));
            }
        }
        TEST.sentence("15 finish", "For some agent: each by itself");
        TEST.run("""
            begin 0; 3 x send 0 0 1 1; 3 x send 0 1 1 1; 5 x send -1 0 2 2; 5 x send -1 1 2 2
            finish 0 true -> 1; waiting 0 -> 8; waiting 1 -> 8
            """);
        TEST.run("""
            begin 0; 3 x send 0 0 1 1; 3 x send 0 1 1 1; 5 x send -1 0 2 2; 6 x send -1 1 2 2
            finish 0 true -> FULL; waiting 0 -> 5; waiting 1 -> 6
            """);
        TEST.run("""
            begin 0; 3 x send 0 0 1 1; 3 x send 0 1 1 1; 6 x send -1 0 2 2; 5 x send -1 1 2 2
            finish 0 true -> FULL; waiting 0 -> 6; waiting 1 -> 5
            """);
        TEST.run("begin 0; 6 x send 0 1 1 1; 8 x send -1 0 2 2; finish 0 true -> 1; waiting 0 -> 8; waiting 1 -> 6");
        TEST.sentence("15 finish", "the sends to it: those of the transaction that is finished");
        String othersSend = """
            begin 0; begin 1; begin 2; 6 x send 0 1 1 1; 6 x send 1 1 1 1; 6 x send 2 1 1 1
            finish T false; begin T; 6 x send T 0 1 1
            """;
        TEST.runForEach("T", 2, othersSend + """
            2 x send -1 0 2 2; 8 x send -1 1 2 2
            finish T true -> 1; waiting 0 -> 8; waiting 1 -> 8
            """);
        TEST.runForEach("T", 2, othersSend + """
            3 x send -1 0 2 2
            finish T true -> FULL; waiting 0 -> 3; waiting 1 -> 0
            """);
        TEST.sentence("15 finish", "the waiting actions: those that wait at the finish");
        TEST.run("8 x send -1 0 2 2; begin 0; 6 x send 0 0 1 1; 6 x act 0; finish 0 true -> 1; waiting 0 -> 8");
        TEST.run("8 x send -1 0 2 2; begin 0; 6 x send 0 0 1 1; 5 x act 0; finish 0 true -> FULL; waiting 0 -> 3");
        TEST.sentence("15 finish", "together more than 8: FULL: in this case there is no effect");
        TEST.haveTheSameEffect(BUSY + FILLS_AGENT_0, "finish 0 true -> FULL", "finish 0 false");
        TEST.haveTheSameEffect(BUSY + FILLS_AGENT_1, "finish 0 true -> FULL", "finish 0 false");
    }

    private static void order() {
        TEST.sentence("15 finish", "Else, in this order: CONFLICT before both cases of FULL");
        TEST.run(BUSY + MAKES_CONFLICT + MAKES_IMPOSSIBLE + "finish 0 true -> CONFLICT");
        TEST.run(BUSY + MAKES_CONFLICT + FILLS_AGENT_0 + "finish 0 true -> CONFLICT");
        TEST.run(BUSY + MAKES_CONFLICT + FILLS_AGENT_1 + "finish 0 true -> CONFLICT");
        TEST.run(BUSY + MAKES_CONFLICT + MAKES_IMPOSSIBLE + FILLS_AGENT_0 + "finish 0 true -> CONFLICT");
        TEST.run(BUSY + MAKES_IMPOSSIBLE + FILLS_AGENT_0 + "finish 0 true -> FULL");
        // The same for a conflict of the last ref, where the first can't be adjusted.
        TEST.run("begin 0; adjust 0 0 1 1; store 0 3 0;" + MAKES_IMPOSSIBLE
            + "begin 1; store 1 3 0; finish 1 true; finish 0 true -> CONFLICT");
        TEST.sentence("15 finish", "in this order: all of them together without effect");
        String bothFull = MAKES_IMPOSSIBLE + FILLS_AGENT_0;
        TEST.haveTheSameEffect(BUSY + MAKES_CONFLICT + bothFull, "finish 0 true -> CONFLICT", "finish 0 false");
        TEST.haveTheSameEffect(BUSY + bothFull, "finish 0 true -> FULL", "finish 0 false");
    }

    private static void success() {
        TEST.sentence("15 finish", "Else each WRITTEN ref holds its own map: empty, full, all four");
        TEST.run("""
            put 0 1 10; begin 2; store 2 0 0; finish 2 true; begin 0; store 0 0 1; finish 0 true -> 1
            seen -1 0 -> empty
            """);
        TEST.run("""
            fill 0 0 10; begin 0; store 0 0 0; store 0 1 0; store 0 2 0; store 0 3 0; adjust 0 3 9 1
            finish 0 true -> 1; seen -1 0 -> 0..9; seen -1 1 -> 0..9; seen -1 2 -> 0..9
            seen -1 3 -> 0..8 9:10
            """);
        TEST.sentence("15 finish", "each COMMUTED ref the map adjusted anew: all four");
        TEST.run("""
            begin 0; 2 x adjust 0 0 1 1; 2 x adjust 0 1 1 2; 2 x adjust 0 2 1 3; 2 x adjust 0 3 1 4
            finish 0 true -> 1; seen -1 0 -> 1:2; seen -1 1 -> 1:4; seen -1 2 -> 1:6; seen -1 3 -> 1:8
            """);
        TEST.sentence("15 finish", "an UNTOUCHED ref holds what it held");
        TEST.run("""
            put 0 1 10; begin 0; begin 1; store 1 0 0; finish 1 true; store 0 1 0; finish 0 true -> 1
            seen -1 0 -> 1:10; seen -1 2 -> empty
            """);
        TEST.sentence("15 finish", "the sends join their agents' queues in their order, behind those that wait");
        TEST.run("""
            begin 0
            send 0 0 1 1; send 0 1 2 2; send 0 0 3 3; send 0 1 4 4; send 0 0 5 5; send 0 1 6 6
            send -1 0 7 7; send -1 1 8 8
            finish 0 true -> 1
            send -1 0 9 9 -> 5
            act 0; seen -1 4 -> 7:7
            act 0; seen -1 4 -> 1:1 7:7
            act 0; seen -1 4 -> 1:1 3:3 7:7
            act 0; seen -1 4 -> 1:1 3:3 5:5 7:7
            act 0; seen -1 4 -> 1:1 3:3 5:5 7:7 9:9
            act 1; seen -1 5 -> 8:8
            act 1; seen -1 5 -> 2:2 8:8
            act 1; seen -1 5 -> 2:2 4:4 8:8
            act 1; seen -1 5 -> 2:2 4:4 6:6 8:8
            """);
        TEST.sentence("15 finish", "and 1 is answered: also if the transaction did nothing");
        TEST.runForEach("T", 2, "begin T; finish T true -> 1; seen -1 0 -> empty; waiting 0 -> 0");
        TEST.changesNothing("fill 0 0 10; begin 1; store 1 0 0; send -1 0 1 1;", "begin 0; finish 0 true -> 1");
    }

    public static void main(String[] args) {
        ends();
        withoutCommit();
        conflicts();
        adjustedAnew();
        tooManySends();
        order();
        success();
        TEST.end();
    }
}
