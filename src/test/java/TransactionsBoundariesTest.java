/** The boundary cases that the document names in promises 9 to 13, and which refs are CHANGED for a transaction. */
public final class TransactionsBoundariesTest {
    private static final Sentences TEST = new Sentences();

    private static void begin() {
        TEST.sentence("9 begin", "Begins a transaction that is not open.");
        TEST.runForEach("T", 2, """
            begin T -> true; finish T true -> 1; begin T -> true; finish T false -> 0; begin T -> true
            """);
        TEST.run("""
            begin 2 -> true; begin 0 -> true; begin 1 -> true; finish 0 true -> 1; finish 2 true -> 1
            finish 1 true -> 1
            """);
        TEST.sentence("9 begin", "False if it is open or the number is out of range.");
        TEST.runForEach("T", 2, "begin T -> true; begin T -> false; begin T -> false");
        TEST.run("begin -1 -> false; begin 3 -> false; begin MIN -> false; begin MAX -> false; begin 2 -> true");
        TEST.sentence("9 begin", "False if it is open: all that it has stays");
        TEST.run("""
            put 0 1 10; put 1 2 20
            begin 0; store 0 0 0; adjust 0 1 5 5; ensure 0 2; send 0 0 7 7
            begin 1; store 1 2 1; store 1 3 1; finish 1 true
            begin 0 -> false
            seen 0 0 -> 1:10
            seen 0 1 -> 5:5
            seen 0 3 -> empty
            send 0 0 7 7 -> 2
            finish 0 true -> CONFLICT
            """);
    }

    private static void load() {
        TEST.sentence("10 load",
            "The variable gets the map that the open transaction sees of ref 0 .. 3: 4 and 5 are none");
        TEST.runForEach("R", 3, "fill 0 0 10; begin 0; store 0 R 0; load 0 R 1 -> 10; map 1 -> 0..9");
        TEST.run("""
            send -1 0 1 1; act 0; begin 0; put 1 9 9; load 0 4 1 -> REFUSED; load 0 5 1 -> REFUSED
            load 0 -1 1 -> REFUSED; map 1 -> 9:9
            """);
        TEST.sentence("10 load",
            "Transaction -1 stands for no transaction: the variable gets the map that ref 0 .. 3 holds now");
        TEST.runForEach("R", 3, """
            put 0 1 10
            begin 0; store 0 R 0
            load -1 R 1 -> 0
            begin 1
            finish 0 true -> 1
            load -1 R 1 -> 1; map 1 -> 1:10
            load 1 R 1 -> 0; map 1 -> empty
            load -2 R 1 -> REFUSED
            """);
        TEST.sentence("10 load", "or, for 4 and 5, that agent 0 or 1 holds");
        TEST.run("""
            send -1 0 1 10; act 0
            send -1 1 2 20; act 1; send -1 1 3 30; act 1
            put 0 9 9
            load -1 6 0 -> REFUSED; map 0 -> 9:9
            load -1 -1 0 -> REFUSED; map 0 -> 9:9
            load -1 3 0 -> 0; map 0 -> empty
            load -1 4 0 -> 1; map 0 -> 1:10
            load -1 5 0 -> 2; map 0 -> 2:20 3:30
            """);
        TEST.sentence("10 load", "Answers the number of entries.");
        TEST.runForEach("V", 3, """
            begin 0; load 0 0 V -> 0; adjust 0 0 1 1; load 0 0 V -> 1; size V -> 1; finish 0 true
            load -1 0 V -> 1
            """);
        TEST.run("""
            fill 0 0 9; begin 0; store 0 2 0; load 0 2 1 -> 9; adjust 0 2 9 9; load 0 2 1 -> 10
            map 1 -> 0..9; finish 0 true; load -1 2 2 -> 10
            """);
        TEST.sentence("10 load", "The variable gets the map: nothing is left of what it held");
        TEST.run("""
            fill 0 0 10; put 1 50 5; begin 0; store 0 0 1; load 0 0 0 -> 1; map 0 -> 50:5; fill 0 0 9
            load -1 0 0 -> 0; map 0 -> empty
            """);
    }

    private static void store() {
        TEST.sentence("11 store", "In the open transaction, a ref that is COMMUTED: REFUSED.");
        TEST.runForEach("R", 3, """
            put 0 1 10
            begin 0; begin 1
            adjust 0 R 5 5
            store 0 R 0 -> REFUSED
            seen 0 R -> 5:5
            store 1 R 0 -> 1
            7 x adjust 0 R 5 5 -> 1
            adjust 0 R 5 5 -> FULL
            store 0 R 0 -> REFUSED
            finish 0 true -> 1
            seen -1 R -> 5:40
            """);
        TEST.run("""
            put 0 1 10; begin 0; adjust 0 1 5 5; store 0 0 0 -> 1; store 0 1 0 -> REFUSED; store 0 2 0 -> 1
            store 0 3 0 -> 1
            """);
        TEST.run("begin 0; adjust 0 1 5 5; finish 0 true; begin 0; store 0 1 0 -> 0");
        TEST.sentence("11 store", "Else it is WRITTEN, its own map is the variable's.");
        TEST.runForEach("R", 3, """
            fill 0 0 10; put 1 50 5
            begin 0
            store 0 R 0 -> 10; seen 0 R -> 0..9
            store 0 R 1 -> 1; seen 0 R -> 50:5
            store 0 R 2 -> 0; seen 0 R -> empty
            adjust 0 R 7 7 -> 1; seen 0 R -> 7:7
            store 0 R 1 -> 1; seen 0 R -> 50:5
            finish 0 true -> 1; seen -1 R -> 50:5
            """);
        // WRITTEN: adjusting is not recorded, and a changed ref is a conflict.
        TEST.run("""
            begin 0; store 0 0 0; 9 x adjust 0 0 1 1 -> 1; begin 1; store 1 0 0; finish 1 true
            finish 0 true -> CONFLICT
            """);
        TEST.sentence("11 store", "Answers the number of its entries.");
        TEST.run("""
            begin 0; store 0 0 0 -> 0; put 0 1 1; store 0 0 0 -> 1; fill 0 1 9; store 0 0 0 -> 9; put 0 0 0
            store 0 0 0 -> 10
            """);
    }

    private static void adjustWritten() {
        TEST.sentence("12 adjust", "A WRITTEN ref: its own map is adjusted; impossible: FULL.");
        TEST.runForEach("R", 3, """
            fill 0 0 9
            begin 0; store 0 R 0
            adjust 0 R 9 9 -> 10
            adjust 0 R 10 1 -> FULL
            adjust 0 R -1 1 -> FULL
            adjust 0 R 0 5 -> 10
            seen 0 R -> 0:5 1:1 2:2 3:3 4:4 5:5 6:6 7:7 8:8 9:9
            map 0 -> 0..8
            """);
        TEST.sentence("12 adjust",
            "A WRITTEN ref: its own map is adjusted: nothing is recorded, and 8 recorded ones do not hinder");
        TEST.run("""
            begin 0; store 0 0 0
            20 x adjust 0 0 1 1 -> 1
            8 x adjust 0 1 1 1 -> 1
            adjust 0 1 1 1 -> FULL
            adjust 0 2 1 1 -> FULL
            20 x adjust 0 0 1 1 -> 1
            adjust 0 0 2 2 -> 2
            store 0 2 0 -> 0
            adjust 0 2 1 1 -> 1
            finish 0 true -> 1
            seen -1 0 -> 1:40 2:2
            seen -1 1 -> 1:8
            seen -1 2 -> 1:1
            """);
    }

    private static void adjustOthers() {
        TEST.sentence("12 adjust", "Else: the transaction has 8 recorded adjustments: FULL");
        TEST.run("""
            begin 0; 7 x adjust 0 0 1 1 -> 1; adjust 0 1 1 1 -> 1; adjust 0 0 1 1 -> FULL
            adjust 0 1 1 1 -> FULL; adjust 0 2 1 1 -> FULL; seen 0 0 -> 1:7; seen 0 1 -> 1:1
            seen 0 2 -> empty; store 0 2 0 -> 0; finish 0 true -> 1; seen -1 0 -> 1:7; seen -1 1 -> 1:1
            """);
        TEST.sentence("12 adjust", "what it sees of the ref can't be adjusted: FULL");
        String fullRef = "fill 0 0 10; begin 2; store 2 R 0; finish 2 true; begin 0;";
        TEST.runForEach("R", 3, fullRef + """
            adjust 0 R 10 1 -> FULL; adjust 0 R -1 0 -> FULL
            store 0 R 1 -> 0
            """);
        TEST.runForEach("R", 3, fullRef + """
            9 x adjust 0 R 10 1 -> FULL
            8 x adjust 0 R 9 1 -> 10
            adjust 0 R 9 1 -> FULL
            seen 0 R -> 0..8 9:17
            finish 0 true -> 1; seen -1 R -> 0..8 9:17
            """);
        TEST.runForEach("R", 3, """
            fill 0 0 9; begin 2; store 2 R 0; finish 2 true; begin 0; adjust 0 R 9 9 -> 10
            adjust 0 R 10 1 -> FULL; adjust 0 R 9 0 -> 10; seen 0 R -> 0..9
            """);
        TEST.sentence("12 adjust",
            "what it sees of the ref can't be adjusted: what it sees, not what the ref holds now");
        TEST.run("""
            fill 0 0 10; begin 0; begin 2; store 2 0 0; finish 2 true; adjust 0 0 50 1 -> 1
            seen 0 0 -> 50:1; finish 0 true -> FULL
            """);
        TEST.run("""
            fill 0 0 10; begin 2; store 2 0 0; finish 2 true; begin 0; begin 2; store 2 0 1; finish 2 true
            adjust 0 0 50 1 -> FULL; adjust 0 0 5 1 -> 10; finish 0 true -> 1; seen -1 0 -> 5:1
            """);
        TEST.sentence("12 adjust",
            "else the adjustment is recorded, the ref is COMMUTED, and its own map is what was seen, adjusted");
        TEST.run("""
            put 0 1 10; begin 2; store 2 0 0; finish 2 true; begin 0; adjust 0 0 1 -10 -> 1; seen 0 0 -> 1:0
            store 0 0 0 -> REFUSED; adjust 0 0 2 0 -> 2; seen 0 0 -> 1:0 2:0; seen -1 0 -> 1:10
            finish 0 true -> 1; seen -1 0 -> 1:0 2:0
            """);
        TEST.sentence("12 adjust", "Answers the number of entries of the own map.");
        TEST.run("""
            fill 0 0 9; begin 0; store 0 0 0; adjust 0 0 8 1 -> 9; adjust 0 0 9 1 -> 10; adjust 0 1 1 1 -> 1
            adjust 0 1 1 1 -> 1; adjust 0 1 2 1 -> 2
            """);
    }

    private static void ensure() {
        TEST.sentence("13 ensure", "The ref is ENSURED in the open transaction. Answers 1.");
        for (int ref = 0; ref < 4; ref++) {
            for (int changed = 0; changed < 4; changed++) {
                String answer = ref == changed ? "CONFLICT" : "1";
                TEST.run("begin 0; ensure 0 " + ref + " -> 1; begin 1; store 1 " + changed + " 0; finish 1 true;"
                    + "finish 0 true -> " + answer);
            }
        }
        TEST.run("begin 0; ensure 0 0 -> 1; ensure 0 0 -> 1; ensure 0 3 -> 1; finish 0 true -> 1");
        TEST.run("""
            begin 0; begin 1; ensure 0 0; begin 2; store 2 0 0; finish 2 true; finish 1 true -> 1
            finish 0 true -> CONFLICT
            """);
        TEST.sentence("13 ensure", "The ref is ENSURED in the open transaction: also after it was CHANGED");
        TEST.run("begin 0; begin 1; store 1 2 0; finish 1 true; ensure 0 2 -> 1; finish 0 true -> CONFLICT");
        TEST.sentence("13 ensure", "The ref is ENSURED in the open transaction: not in the next one of the number");
        TEST.run("""
            begin 0; ensure 0 2; finish 0 true; begin 0; begin 1; store 1 2 0; finish 1 true
            finish 0 true -> 1
            """);
        TEST.sentence("13 ensure", "ENSURED besides being UNTOUCHED, WRITTEN or COMMUTED");
        TEST.run("""
            begin 0; ensure 0 0; store 0 0 0 -> 0; ensure 0 1; 8 x adjust 0 1 1 1 -> 1
            adjust 0 1 1 1 -> FULL; finish 0 true -> 1; seen -1 1 -> 1:8
            """);
        TEST.run("""
            begin 0; adjust 0 0 1 1; ensure 0 0; store 0 0 1 -> REFUSED; store 0 1 1; ensure 0 1
            adjust 0 1 5 5; seen 0 0 -> 1:1; seen 0 1 -> 5:5
            """);
    }

    /** Whether ref 0 is CHANGED for transaction 0, which is begun before or in the run; once WRITTEN, once ENSURED. */
    private static void isChanged(boolean changed, String script) {
        String answer = changed ? "CONFLICT" : "1";
        TEST.run(script + "; store 0 0 3; finish 0 true -> " + answer);
        TEST.run(script + "; ensure 0 0; finish 0 true -> " + answer);
        // Neither WRITTEN nor ENSURED.
        TEST.run(script + "; adjust 0 0 1 1; store 0 3 3; ensure 0 3; finish 0 true -> 1");
    }

    private static void changedRefs() {
        TEST.sentence("Terms",
            "A ref is CHANGED for an open transaction if some other transaction was finished in which it was WRITTEN");
        isChanged(true, "begin 0; begin 1; store 1 0 0; finish 1 true -> 1");
        isChanged(true, "begin 0; begin 2; store 2 0 0; finish 2 true -> 1");
        TEST.sentence("Terms",
            "A ref is CHANGED for an open transaction if some other transaction was finished in which it was COMMUTED");
        isChanged(true, "begin 0; begin 1; adjust 1 0 1 1; finish 1 true -> 1");
        TEST.sentence("Terms", "WRITTEN or COMMUTED: not UNTOUCHED, seen or ENSURED");
        isChanged(false, "begin 0");
        isChanged(false, "begin 0; begin 1; load 1 0 1; ensure 1 0; finish 1 true -> 1");
        isChanged(false, "begin 0; begin 1; store 1 1 0; adjust 1 2 1 1; finish 1 true -> 1");
        TEST.sentence("Terms", "since its beginning");
        isChanged(false, "begin 1; store 1 0 0; finish 1 true -> 1; begin 0");
        isChanged(true, "begin 1; store 1 0 0; begin 0; finish 1 true -> 1");
        isChanged(true, "begin 0; store 0 1 0; begin 1; store 1 0 0; finish 1 true -> 1; begin 2; finish 2 true");
        isChanged(false, "begin 0; begin 1; store 1 0 0; finish 1 true -> 1; finish 0 false; begin 0");
        TEST.sentence("Terms", "some other transaction: not an earlier one of the same number");
        isChanged(false, "begin 0; store 0 0 0; finish 0 true -> 1; begin 0");
        TEST.sentence("Terms", "was finished with success: not with commit false");
        isChanged(false, "begin 0; begin 1; store 1 0 0; finish 1 false -> 0");
        isChanged(false, "begin 0; begin 1; adjust 1 0 1 1; finish 1 false -> 0");
        TEST.sentence("Terms", "was finished with success: not with CONFLICT");
        isChanged(false, "begin 0; begin 1; store 1 0 0; ensure 1 1; begin 2; store 2 1 0; finish 2 true;"
            + "finish 1 true -> CONFLICT");
        TEST.sentence("Terms", "was finished with success: not with FULL");
        isChanged(false, "fill 0 0 10; begin 0; begin 1; store 1 0 0; adjust 1 1 20 1;"
            + "begin 2; store 2 1 0; finish 2 true; finish 1 true -> FULL");
        isChanged(false, "8 x send -1 0 1 1; begin 0; begin 1; store 1 0 0; send 1 0 1 1; finish 1 true -> FULL");
        TEST.sentence("Terms", "was finished with success: not while it is open");
        isChanged(false, "begin 0; begin 1; store 1 0 0; adjust 1 0 1 1");
        TEST.sentence("Terms", "(whether or not its map became another one)");
        isChanged(true, "begin 0; begin 1; store 1 0 3; finish 1 true -> 1");
        isChanged(true, "begin 2; adjust 2 0 1 5; finish 2 true; begin 0; begin 1; adjust 1 0 1 0; finish 1 true -> 1");
        isChanged(true, "begin 0; begin 1; put 1 1 1; store 1 0 1; finish 1 true -> 1;"
            + "begin 1; store 1 0 3; finish 1 true -> 1");
    }

    private static void changedForEach() {
        TEST.sentence("Terms", "A ref is CHANGED for an open transaction: for each other one, and for each ref");
        for (int reader = 0; reader < 3; reader++) {
            for (int writer = 0; writer < 3; writer++) {
                String script = Sentences.with("T", reader, Sentences.with("U", writer,
                    "begin T; store T R 0; begin U; store U R 0; finish U true -> 1; finish T true -> CONFLICT"));
                if (reader != writer) {
                    TEST.runForEach("R", 3, script);
                }
            }
        }
        TEST.run("begin 0; begin 1; begin 2; store 0 1 0; store 1 1 0; store 2 1 0;"
            + "finish 1 true -> 1; finish 0 true -> CONFLICT; finish 2 true -> CONFLICT");
        TEST.run("begin 0; begin 1; begin 2; ensure 0 1; ensure 1 1; adjust 2 1 1 1;"
            + "finish 0 true -> 1; finish 2 true -> 1; finish 1 true -> CONFLICT");
    }

    public static void main(String[] args) {
        begin();
        load();
        store();
        adjustWritten();
        adjustOthers();
        ensure();
        changedRefs();
        changedForEach();
        TEST.end();
    }
}
