/**
 * The sentences of the document on numbers out of range, on transactions that are not open,
 * and on calls that change nothing.
 */
public final class RefusedAndFullTest {
    private static final Sentences TEST = new Sentences();

    /** Where N is: least .. last are allowed; what is answered then, on new objects, and what else. */
    private static void range(String before, String call, int least, int last, String allowed, String refused) {
        for (int number = least; number <= last; number++) {
            TEST.run(Sentences.with("N", number, before + ";" + call + " -> " + allowed));
        }
        int[] outside = {least - 1, last + 1, last + 2, Integer.MIN_VALUE, Integer.MAX_VALUE};
        for (int number : outside) {
            for (String state : States.ALL) {
                TEST.changesNothing(state, Sentences.with("N", number, call) + " -> " + refused);
            }
        }
    }

    private static void variableNumbers() {
        TEST.sentence("Terms",
            "a variable number out of range answers REFUSED (or what is said there) and nothing changes");
        range("", "put N 1 1", 0, 3, "1", "REFUSED");
        range("put N 5 1", "remove N 5", 0, 3, "1", "REFUSED");
        for (int kind = 0; kind < 4; kind++) {
            String allowed = kind == 2 ? "0" : "2";
            String before = "fill 0 1 2; fill 1 1 2; fill 2 1 2; fill 3 1 2";
            range(before, "combine " + kind + " N 1 2", 0, 3, allowed, "REFUSED");
            range(before, "combine " + kind + " 0 N 2", 0, 3, allowed, "REFUSED");
            range(before, "combine " + kind + " 0 1 N", 0, 3, allowed, "REFUSED");
        }
        range("put N 5 7", "get N 5 33", 0, 3, "7", "33");
        range("put N 5 7", "size N", 0, 3, "1", "REFUSED");
        range("put N 5 7", "keyAt N 0", 0, 3, "5", "0");
        range("", "same N 0", 0, 3, "true", "false");
        range("", "same 0 N", 0, 3, "true", "false");
        range("", "same N N", 0, 3, "true", "false");
        range("begin 0; adjust 0 0 1 1", "load 0 0 N", 0, 3, "1", "REFUSED");
        range("", "load -1 0 N", 0, 3, "0", "REFUSED");
        range("send -1 0 1 1; act 0", "load -1 4 N", 0, 3, "1", "REFUSED");
        range("begin 0; put N 5 7", "store 0 0 N", 0, 3, "1", "REFUSED");
    }

    private static void refNumbers() {
        TEST.sentence("Terms", "a ref number out of range answers REFUSED and nothing changes");
        range("begin 0", "load 0 N 0", 0, 3, "0", "REFUSED");
        range("begin 0; put 0 5 7", "store 0 N 0", 0, 3, "1", "REFUSED");
        range("begin 0", "adjust 0 N 1 1", 0, 3, "1", "REFUSED");
        range("begin 0", "ensure 0 N", 0, 3, "1", "REFUSED");
        TEST.sentence("10 load", "the map that ref 0 .. 3 holds now, or, for 4 and 5, that agent 0 or 1 holds");
        range("", "load -1 N 0", 0, 5, "0", "REFUSED");
    }

    private static void agentNumbers() {
        TEST.sentence("Terms", "an agent number out of range answers REFUSED and nothing changes");
        range("begin 0", "send 0 N 1 1", 0, 1, "1", "REFUSED");
        range("", "send -1 N 1 1", 0, 1, "1", "REFUSED");
        range("send -1 N 1 1", "act N", 0, 1, "1", "REFUSED");
        range("send -1 N 1 1", "waiting N", 0, 1, "1", "REFUSED");
    }

    private static void transactionNumbers() {
        TEST.sentence("Terms",
            "a transaction number out of range answers REFUSED (or what is said there) and nothing changes");
        range("", "begin N", 0, 2, "true", "false");
        // For load and send -1 is in range too: it stands for no transaction.
        range("begin N", "load N 0 0", -1, 2, "0", "REFUSED");
        range("begin N", "send N 0 1 1", -1, 2, "1", "REFUSED");
        range("begin N; put 0 5 7", "store N 0 0", 0, 2, "1", "REFUSED");
        range("begin N", "adjust N 0 1 1", 0, 2, "1", "REFUSED");
        range("begin N", "ensure N 0", 0, 2, "1", "REFUSED");
        range("begin N", "finish N true", 0, 2, "1", "REFUSED");
        range("begin N", "finish N false", 0, 2, "0", "REFUSED");
    }

    private static void kinds() {
        TEST.sentence("4 combine", "Other kinds: REFUSED.");
        range("", "combine N 0 1 2", 0, 3, "0", "REFUSED");
        range("", "combine N 0 0 0", 0, 3, "0", "REFUSED");
    }

    private static void closedTransactions() {
        TEST.sentence("Terms", "a transaction that is not open answers REFUSED and nothing changes");
        String[] calls = {
            "load N 0 0", "store N 0 0", "adjust N 0 0 1", "ensure N 0", "send N 0 1 1",
            "finish N true", "finish N false"};
        for (String call : calls) {
            String refused = call + " -> REFUSED";
            for (int transaction = 0; transaction < 3; transaction++) {
                TEST.changesNothing(States.NEW_OBJECT, Sentences.with("N", transaction, refused));
            }
            TEST.changesNothing(States.ONE_PLACE_LEFT, Sentences.with("N", 2, refused));
            TEST.changesNothing(States.FULL_UP, Sentences.with("N", 2, refused));
            TEST.changesNothing(States.ONE_PLACE_LEFT + "finish 0 true -> 1", Sentences.with("N", 0, refused));
            TEST.changesNothing(States.ONE_PLACE_LEFT + "finish 0 false -> 0", Sentences.with("N", 0, refused));
            TEST.changesNothing(States.FULL_UP + "finish 0 true -> FULL", Sentences.with("N", 0, refused));
        }
    }

    private static void numbersComeFirst() {
        TEST.sentence("Terms", "Every call tests its numbers first");
        String[] calls = {
            "combine 1 0 1 4", "combine 1 0 1 -1", "combine 4 0 1 2", "combine -1 0 1 2",
            "adjust 0 4 99 1", "adjust 0 -1 99 1", "adjust 2 0 99 1", "adjust 3 0 99 1",
            "send 0 2 1 1", "send 0 -1 1 1", "send -1 2 1 1", "send -1 -1 1 1", "send 2 0 1 1", "send 3 0 1 1"};
        for (String call : calls) {
            TEST.changesNothing(States.FULL_UP, call + " -> REFUSED");
        }
        TEST.sentence("4 combine", "Variables a, b, to (all three are tested).");
        for (int kind = 0; kind < 4; kind++) {
            TEST.changesNothing("fill 0 0 3; fill 2 0 1", "combine " + kind + " 0 4 2 -> REFUSED");
            TEST.changesNothing("fill 0 0 3; fill 2 0 1", "combine " + kind + " 0 -1 2 -> REFUSED");
        }
    }

    private static void fullChangesNothing() {
        TEST.sentence("Terms", "FULL and REFUSED: nothing changes, but for finish.");
        String[] full = {
            "put 0 10 1", "put 0 -1 1", "put 1 9999 0", "put 1 MIN 0", "put 1 MAX 0",
            "combine 1 0 1 2", "combine 1 1 0 3", "combine 1 0 1 0", "combine 1 0 1 1", "combine 1 2 1 2",
            "adjust 0 0 0 1", "adjust 1 1 10 1", "adjust 1 1 -1 1",
            "adjust 0 1 0 70", "adjust 0 2 5 70", "adjust 0 3 1 70", "adjust 0 1 99 70",
            "adjust 1 0 99 1", "adjust 1 0 -1 1", "adjust 1 2 99 1", "adjust 1 2 -1 0",
            "send 0 0 4 70", "send 0 1 4 70", "send -1 0 4 70", "send -1 1 4 70"};
        for (String call : full) {
            TEST.changesNothing(States.FULL_UP, call + " -> FULL");
        }
        String[] refused = {"store 0 1 0", "store 0 1 3", "store 0 2 0", "store 1 2 0"};
        for (String call : refused) {
            TEST.changesNothing(States.FULL_UP, call + " -> REFUSED");
        }
        TEST.sentence("Terms", "FULL and REFUSED: nothing changes, but for finish: that ends the transaction");
        TEST.haveTheSameEffect(States.FULL_UP, "finish 0 true -> FULL", "finish 0 false");
        TEST.haveTheSameEffect(States.FULL_UP, "finish 1 true -> FULL", "finish 1 false");
    }

    private static void otherCallsThatChangeNothing() {
        TEST.sentence("3 remove", "0 if the key is absent (nothing changes)");
        for (String call : new String[] {"remove 0 10", "remove 0 -1", "remove 1 MIN", "remove 2 MAX", "remove 2 10"}) {
            TEST.changesNothing(States.FULL_UP, call + " -> 0");
        }
        TEST.changesNothing(States.NEW_OBJECT, "remove 0 0 -> 0");
        TEST.sentence("9 begin", "False if it is open or the number is out of range.");
        for (String state : new String[] {States.ALL_OPEN, States.ONE_PLACE_LEFT, States.FULL_UP}) {
            TEST.changesNothing(state, "begin 0 -> false");
            TEST.changesNothing(state, "begin 1 -> false");
        }
        TEST.sentence("16 act", "0 if none waits.");
        TEST.changesNothing(States.NEW_OBJECT, "act 0 -> 0");
        TEST.changesNothing(States.NEW_OBJECT, "act 1 -> 0");
        TEST.changesNothing("send -1 0 1 1; act 0", "act 0 -> 0");
        TEST.changesNothing("send -1 0 1 1", "act 1 -> 0");
        TEST.sentence("5 to 8 and 17", "the calls that only read");
        String[] reads = {
            "get 0 5 9", "get 0 99 9", "size 0", "keyAt 0 9", "keyAt 0 10", "same 0 1", "same 0 0", "waiting 0"};
        for (String call : reads) {
            TEST.changesNothing(States.FULL_UP, call);
        }
    }

    public static void main(String[] args) {
        variableNumbers();
        refNumbers();
        agentNumbers();
        transactionNumbers();
        kinds();
        closedTransactions();
        numbersComeFirst();
        fullChangesNothing();
        otherCallsThatChangeNothing();
        TEST.end();
    }
}
