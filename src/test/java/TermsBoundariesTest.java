import java.util.ArrayList;
import java.util.List;

/** The boundary cases that the document names in 'What it is' and in 'Terms', but for refusing and adjusting. */
public final class TermsBoundariesTest {
    private static final Sentences TEST = new Sentences();

    private static void atMost512Calls() {
        TEST.sentence("What it is", "An object is used for at most 512 calls after it has been made: 512 of one sort");
        TEST.run("512 x put 0 1 1 -> 1; calls -> 512");
        TEST.run("512 x remove 0 1 -> 0; calls -> 512");
        TEST.run("put 0 1 1; 511 x combine 1 0 1 0 -> 1; calls -> 512");
        TEST.run("put 0 1 7; 511 x get 0 1 0 -> 7; calls -> 512");
        TEST.run("put 0 1 7; 511 x size 0 -> 1; calls -> 512");
        TEST.run("put 0 5 7; 511 x keyAt 0 0 -> 5; calls -> 512");
        TEST.run("put 0 1 1; put 1 1 1; 510 x same 0 1 -> true; calls -> 512");
        TEST.run("begin 0 -> true; 511 x begin 0 -> false; calls -> 512");
        TEST.run("begin 0; adjust 0 0 1 1; 510 x load 0 0 0 -> 1; calls -> 512");
        TEST.run("begin 0; put 0 1 1; 510 x store 0 0 0 -> 1; calls -> 512");
        TEST.run("begin 0; store 0 0 0; 510 x adjust 0 0 1 1 -> 1; calls -> 512");
        TEST.run("begin 0; 511 x ensure 0 0 -> 1; calls -> 512");
        TEST.run("8 x send -1 0 1 1 -> 1..8; 504 x send -1 0 1 1 -> FULL; calls -> 512");
        TEST.run("512 x finish 0 true -> REFUSED; calls -> 512");
        TEST.run("512 x act 0 -> 0; calls -> 512");
        TEST.run("send -1 0 1 1; 511 x waiting 0 -> 1; calls -> 512");
        TEST.sentence("What it is", "An object is used for at most 512 calls after it has been made: to the last one");
        TEST.run("fill 0 0 10; 500 x put 0 5 7 -> 10; put 0 10 1 -> FULL; get 0 9 -5 -> 9; calls -> 512");
        TEST.run("put 0 1 1;" + "put 1 1 1 -> 1; remove 1 1 -> 1;".repeat(255) + "same 0 1 -> false; calls -> 512");
        TEST.run("begin 0 -> true; adjust 0 0 1 1 -> 1; finish 0 true -> 1;".repeat(170)
            + "load -1 0 0 -> 1; get 0 1 0 -> 170; calls -> 512");
        TEST.run("begin 1; store 1 1 0; begin 0; store 0 1 0; finish 0 true;"
            + "begin 0 -> true; store 0 0 0 -> 0; finish 0 true -> 1;".repeat(168)
            + "finish 1 true -> CONFLICT; load -1 1 0 -> 0; size 0 -> 0; calls -> 512");
        TEST.run("begin 0 -> true; finish 0 false -> 0;".repeat(255)
            + "begin 0 -> true; finish 0 true -> 1; calls -> 512");
        TEST.run("begin 0; store 0 0 0; 508 x adjust 0 0 1 1 -> 1; load 0 0 0 -> 1; get 0 1 0 -> 508; calls -> 512");
        TEST.run("send -1 0 1 1 -> 1; act 0 -> 1;".repeat(255) + "load -1 4 0 -> 1; get 0 1 0 -> 255; calls -> 512");
        TEST.run("8 x send -1 1 1 1 -> 1..8;" + "act 1 -> 1; send -1 1 1 1 -> 8;".repeat(251)
            + "send -1 1 1 1 -> FULL; waiting 1 -> 8; calls -> 512");
    }

    private static void atMost10Entries() {
        TEST.sentence("Terms", "A MAP is a finite map with at most 10 entries: of a variable");
        TEST.runForEach("V", 3, """
            size V -> 0
            fill V 0 9 -> 9
            put V 9 9 -> 10
            put V 10 10 -> FULL
            put V -1 10 -> FULL
            map V -> 0..9
            """);
        TEST.sentence("Terms", "A MAP is a finite map with at most 10 entries: of a ref");
        TEST.runForEach("R", 3, """
            load -1 R 1 -> 0
            fill 0 0 9
            begin 0; store 0 R 0 -> 9
            adjust 0 R 9 9 -> 10
            adjust 0 R 10 10 -> FULL
            adjust 0 R -1 10 -> FULL
            finish 0 true -> 1
            load -1 R 1 -> 10
            map 1 -> 0..9
            """);
        TEST.sentence("Terms", "A MAP is a finite map with at most 10 entries: of an agent");
        for (int agent = 0; agent < 2; agent++) {
            StringBuilder script = new StringBuilder();
            for (int key = 0; key < 10; key++) {
                script.append("send -1 A " + key + " " + key + "; act A -> 1;");
            }
            script.append("send -1 A 10 10; act A -> FULL; send -1 A -1 10; act A -> FULL;");
            script.append("load -1 " + (4 + agent) + " 0 -> 10; map 0 -> 0..9");
            TEST.run(Sentences.with("A", agent, script.toString()));
        }
        TEST.sentence("Terms", "A MAP is a finite map from ints (keys) to ints (values)");
        TEST.run("""
            put 0 MIN MAX -> 1; put 0 MAX MIN -> 2; put 0 0 0 -> 3; put 0 -1 -1 -> 4
            map 0 -> MIN:MAX -1:-1 0:0 MAX:MIN
            """);
        TEST.run("put 0 MIN MIN -> 1; put 0 MAX MAX -> 2; map 0 -> MIN:MIN MAX:MAX");
    }

    private static void mapsAreValues() {
        TEST.sentence("Terms", "changing what one variable holds never changes what another one holds");
        TEST.run("put 0 1 10; combine 0 0 0 1; put 0 1 11; put 0 2 22; map 1 -> 1:10; remove 1 1; map 0 -> 1:11 2:22");
        TEST.run("""
            fill 0 0 10; fill 1 20 10; fill 2 40 10; fill 3 60 10; remove 1 29; put 1 99 9; remove 1 20
            put 1 -9 9; map 0 -> 0..9; map 1 -> -9:9 21:1 22:2 23:3 24:4 25:5 26:6 27:7 28:8 99:9
            map 2 -> 40..49; map 3 -> 60..69
            """);
        TEST.sentence("Terms", "changing what a variable holds never changes what a ref holds");
        TEST.run("put 0 1 10; begin 0; store 0 0 0; put 0 1 11; put 0 2 22; seen 0 0 -> 1:10; finish 0 true;"
            + "remove 0 1; seen -1 0 -> 1:10; load -1 0 1; put 1 1 12; remove 1 1; seen -1 0 -> 1:10");
        TEST.run("put 0 1 10; begin 0; store 0 0 0; finish 0 true; begin 1; load 1 0 2; put 2 1 12; seen 1 0 -> 1:10;"
            + "load -1 0 2; put 2 5 5; seen 1 0 -> 1:10; seen -1 0 -> 1:10");
        TEST.sentence("Terms", "changing what a ref holds never changes what a variable or another ref holds");
        TEST.run("""
            put 0 1 10; begin 0; store 0 0 0; store 0 1 0; adjust 0 0 1 5; adjust 0 0 2 2; map 0 -> 1:10
            seen 0 1 -> 1:10; seen 0 0 -> 1:15 2:2; finish 0 true; map 0 -> 1:10; seen -1 1 -> 1:10
            seen -1 0 -> 1:15 2:2
            """);
        TEST.run("put 0 1 10; begin 0; store 0 0 0; store 0 1 0; finish 0 true; load -1 0 1; begin 0; adjust 0 0 1 1;"
            + "finish 0 true; map 1 -> 1:10; seen -1 1 -> 1:10; seen -1 0 -> 1:11");
        TEST.run("""
            fill 0 0 10; fill 1 20 10; begin 0; store 0 0 0; store 0 1 1; store 0 2 0; store 0 3 1
            adjust 0 1 29 1; adjust 0 2 0 1; finish 0 true; seen -1 0 -> 0..9; seen -1 1 -> 20..28 29:10
            seen -1 2 -> 0:1 1:1 2:2 3:3 4:4 5:5 6:6 7:7 8:8 9:9; seen -1 3 -> 20..29
            """);
        TEST.sentence("Terms",
            "changing what an agent holds never changes what a variable or the other agent holds, nor back");
        TEST.run("send -1 0 1 10; act 0; load -1 4 0; send -1 0 1 1; act 0; map 0 -> 1:10; seen -1 5 -> empty;"
            + "put 0 1 99; put 0 2 2; seen -1 4 -> 1:11; send -1 1 1 5; act 1; seen -1 4 -> 1:11; seen -1 5 -> 1:5");
    }

    private static List<List<String>> orders(List<String> words) {
        List<List<String>> orders = new ArrayList<>();
        orders.add(new ArrayList<>());
        for (String word : words) {
            List<List<String>> longer = new ArrayList<>();
            for (List<String> order : orders) {
                for (int place = 0; place <= order.size(); place++) {
                    List<String> next = new ArrayList<>(order);
                    next.add(place, word);
                    longer.add(next);
                }
            }
            orders = longer;
        }
        return orders;
    }

    private static void keysAreSigned() {
        TEST.sentence("Terms", "Keys are ordered as signed ints.");
        String ordered = " -> MIN:7 -1:7 0:7 1:7 MAX:7;";
        for (List<String> order : orders(List.of("MIN", "-1", "0", "1", "MAX"))) {
            StringBuilder script = new StringBuilder("begin 0;");
            for (String key : order) {
                script.append("put 0 " + key + " 7; adjust 0 0 " + key + " 7; send -1 0 " + key + " 7; act 0;");
            }
            script.append("map 0" + ordered + "seen 0 0" + ordered + "finish 0 true -> 1; seen -1 0" + ordered);
            script.append("seen -1 4" + ordered + "keyAt 0 0 -> MIN; keyAt 0 4 -> MAX");
            TEST.run(script.toString());
        }
    }

    private static void emptyAtFirst() {
        TEST.sentence("Terms", "variables 0 .. 3, refs 0 .. 3, agents 0 and 1, each holding a map, empty at first");
        TEST.runForEach("V", 3, "size V -> 0; keyAt V 0 -> 0; get V 0 5 -> 5; map V -> empty; put V 0 0 -> 1");
        TEST.runForEach("H", 5, "put 0 1 1; load -1 H 0 -> 0; map 0 -> empty");
        TEST.runForEach("R", 3, "begin 0; seen 0 R -> empty; adjust 0 R 0 0 -> 1");
        TEST.sentence("Terms", "each agent has a queue of at most 8 waiting actions, empty at first");
        TEST.runForEach("A", 1, """
            waiting A -> 0
            act A -> 0
            7 x send -1 A 1 1 -> 1..7
            send -1 A 1 1 -> 8
            send -1 A 1 1 -> FULL
            waiting A -> 8
            8 x act A -> 1
            act A -> 0
            waiting A -> 0
            """);
        TEST.run("""
            8 x send -1 0 1 1; waiting 1 -> 0; 8 x send -1 1 1 1 -> 1..8; send -1 0 1 1 -> FULL
            send -1 1 1 1 -> FULL
            """);
        TEST.sentence("Terms", "transactions 0 .. 2, none open at first");
        TEST.runForEach("T", 2, """
            finish T true -> REFUSED; finish T false -> REFUSED; begin T -> true; begin T -> false
            finish T true -> 1
            """);
        TEST.run("begin 0 -> true; begin 1 -> true; begin 2 -> true; begin 3 -> false; begin -1 -> false");
    }

    private static void snapshots() {
        TEST.sentence("Terms", "a snapshot: the maps that the four refs held when it was begun");
        String held = "put 0 1 10; begin 2; store 2 0 0; store 2 1 0; store 2 2 0; store 2 3 0; finish 2 true -> 1;";
        String changed = "put 0 2 20; begin 2; store 2 0 0; store 2 1 0; store 2 2 0; store 2 3 0; finish 2 true -> 1;";
        TEST.runForEach("R", 3, held + "begin 0;" + changed + """
            begin 1
            seen 0 R -> 1:10
            seen 1 R -> 1:10 2:20
            seen -1 R -> 1:10 2:20
            """);
        TEST.runForEach("R", 3, "begin 0;" + held + "seen 0 R -> empty; begin 1; seen 1 R -> 1:10");
        TEST.sentence("Terms",
            "a snapshot: the maps that the four refs held when it was begun: not what another has not finished");
        TEST.run("put 0 1 10; begin 0; store 0 0 0; adjust 0 1 5 5; begin 1; finish 0 true -> 1; begin 2;"
            + "seen 1 0 -> empty; seen 1 1 -> empty; seen 2 0 -> 1:10; seen 2 1 -> 5:5");
        TEST.sentence("Terms", "a snapshot: the maps that the four refs held when it was begun: full maps");
        TEST.run("""
            fill 0 0 10; begin 2; store 2 0 0; store 2 3 0; finish 2 true; begin 0; fill 1 20 10; begin 2
            store 2 0 1; store 2 3 1; finish 2 true; seen 0 0 -> 0..9; seen 0 1 -> empty; seen 0 3 -> 0..9
            seen -1 0 -> 20..29
            """);
    }

    private static void standings() {
        TEST.sentence("Terms", "In it a ref is UNTOUCHED, WRITTEN or COMMUTED (all UNTOUCHED at first)");
        String[] ends = {"finish 0 true", "finish 0 false"};
        for (String end : ends) {
            String earlier = "put 0 1 1; begin 0; store 0 0 0; store 0 1 0; adjust 0 2 1 1; adjust 0 3 1 1;"
                + end + "; begin 0;";
            // COMMUTED would refuse the store.
            TEST.runForEach("R", 3, earlier + "store 0 R 1 -> 0");
            // WRITTEN would not record the adjustments.
            TEST.runForEach("R", 3, earlier + "8 x adjust 0 R 1 1 -> 1; adjust 0 R 1 1 -> FULL");
            // WRITTEN would be in conflict.
            TEST.runForEach("R", 3, earlier + "begin 1; store 1 R 0; finish 1 true; finish 0 true -> 1");
        }
        TEST.runForEach("R", 3, "begin 0; store 0 R 0 -> 0");
        TEST.runForEach("R", 3, "begin 0; 8 x adjust 0 R 1 1 -> 1; adjust 0 R 1 1 -> FULL");
        TEST.sentence("Terms", "a ref that is not UNTOUCHED has a map of its own in the transaction");
        TEST.run("begin 0; begin 1; begin 2; put 0 1 1; put 1 2 2; store 0 0 0; store 1 0 1; adjust 2 0 3 3;"
            + "seen 0 0 -> 1:1; seen 1 0 -> 2:2; seen 2 0 -> 3:3; seen -1 0 -> empty");
        TEST.run("""
            begin 0; store 0 0 0; adjust 0 1 1 1; adjust 0 3 3 3; seen 0 0 -> empty; seen 0 1 -> 1:1
            seen 0 2 -> empty; seen 0 3 -> 3:3
            """);
        TEST.sentence("Terms",
            "What the transaction SEES of a ref is its own map of it if there is one: an empty own map");
        TEST.runForEach("R", 3, """
            put 0 1 10; begin 2; store 2 R 0; finish 2 true; begin 0; seen 0 R -> 1:10; store 0 R 1 -> 0
            seen 0 R -> empty; seen -1 R -> 1:10; finish 0 true -> 1; seen -1 R -> empty
            """);
        TEST.sentence("Terms",
            "What the transaction SEES of a ref is its own map of it if there is one, else the snapshot's");
        TEST.runForEach("R", 3, """
            put 0 1 10; begin 2; store 2 R 0; finish 2 true; begin 0; fill 1 20 10; store 0 R 1 -> 10
            seen 0 R -> 20..29; begin 1; seen 1 R -> 1:10; adjust 1 R 1 -10 -> 1; seen 1 R -> 1:0
            """);
    }

    private static void listsOfATransaction() {
        TEST.sentence("Terms", "a list of at most 8 recorded adjustments, empty at first");
        TEST.runForEach("T", 2, """
            begin T; 7 x adjust T 0 1 1 -> 1; adjust T 0 1 1 -> 1; adjust T 0 1 1 -> FULL; seen T 0 -> 1:8
            """);
        TEST.sentence("Terms", "a list of at most 8 recorded adjustments, of all refs together");
        TEST.run("""
            begin 0; 2 x adjust 0 0 1 1 -> 1; 2 x adjust 0 1 1 1 -> 1; 2 x adjust 0 2 1 1 -> 1
            adjust 0 3 1 1 -> 1; adjust 0 3 2 1 -> 2; adjust 0 0 1 1 -> FULL; adjust 0 1 1 1 -> FULL
            adjust 0 2 1 1 -> FULL; adjust 0 3 1 1 -> FULL
            """);
        TEST.sentence("Terms", "it has a list of at most 8 recorded adjustments: each transaction its own");
        TEST.run("""
            begin 0; begin 1; begin 2; 8 x adjust 0 0 1 1 -> 1; 8 x adjust 1 0 1 2 -> 1
            8 x adjust 2 0 1 3 -> 1; adjust 0 0 1 1 -> FULL; adjust 1 0 1 1 -> FULL; adjust 2 0 1 1 -> FULL
            finish 1 true -> 1; seen -1 0 -> 1:16; finish 2 true -> 1; seen -1 0 -> 1:40; finish 0 true -> 1
            seen -1 0 -> 1:48
            """);
        TEST.sentence("Terms", "a list of at most 6 sends, empty at first");
        TEST.runForEach("T", 2, """
            begin T; 5 x send T 0 1 1 -> 1..5; send T 0 1 1 -> 6; send T 0 1 1 -> FULL; finish T true -> 1
            waiting 0 -> 6
            """);
        TEST.sentence("Terms", "a list of at most 6 sends, to all agents together");
        TEST.run("""
            begin 0; 3 x send 0 0 1 1 -> 1..3; 3 x send 0 1 1 1 -> 4..6; send 0 0 1 1 -> FULL
            send 0 1 1 1 -> FULL; finish 0 true -> 1; waiting 0 -> 3; waiting 1 -> 3
            """);
        TEST.sentence("Terms", "it has a list of at most 6 sends: each transaction its own");
        TEST.run("""
            begin 0; begin 1; begin 2; 6 x send 0 0 1 1 -> 1..6; 6 x send 1 1 2 2 -> 1..6
            2 x send 2 0 3 3 -> 1..2; finish 2 true -> 1; waiting 0 -> 2; finish 1 true -> 1; waiting 1 -> 6
            finish 0 true -> 1; waiting 0 -> 8; 2 x act 0; seen -1 4 -> 3:6; 6 x act 0; seen -1 4 -> 1:6 3:6
            6 x act 1; seen -1 5 -> 2:12
            """);
        TEST.sentence("Terms", "both empty at first, whatever an earlier transaction of the number had");
        String[] ends = {"finish 0 false -> 0", "finish 0 true -> 1",
            "ensure 0 3; begin 1; store 1 3 0; finish 1 true; finish 0 true -> CONFLICT",
            "fill 0 20 10; begin 1; store 1 0 0; finish 1 true; finish 0 true -> FULL",
            "3 x send -1 0 9 9; finish 0 true -> FULL"};
        for (String end : ends) {
            TEST.run("begin 0; 8 x adjust 0 0 1 1; 6 x send 0 0 1 1;" + end + "; begin 0; send 0 1 1 1 -> 1;"
                + "5 x send 0 1 1 1 -> 2..6; send 0 1 1 1 -> FULL; 8 x adjust 0 2 1 1 -> 1; adjust 0 2 1 1 -> FULL;"
                + "finish 0 true -> 1; seen -1 2 -> 1:8; waiting 1 -> 6");
        }
    }

    public static void main(String[] args) {
        atMost512Calls();
        atMost10Entries();
        mapsAreValues();
        keysAreSigned();
        emptyAtFirst();
        snapshots();
        standings();
        listsOfATransaction();
        TEST.end();
    }
}
