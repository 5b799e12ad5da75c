import java.util.List;

/** The boundary cases that the document names in promises 1 to 8: a new object and the calls on variables. */
public final class VariablesBoundariesTest {
    private static final Sentences TEST = new Sentences();

    private static void spread() {
        TEST.sentence("1 a new object", "spread: only a hint for the inner layout; it changes no answer");
        int[] spreads = {0, 1, 2, 3, 4, 7, 8, 10, 11, 16, 31, 32, 33, 64, 512, 1 << 30, Integer.MAX_VALUE,
            -1, -2, -16, Integer.MIN_VALUE, Integer.MIN_VALUE + 1};
        for (int spread : spreads) {
            for (String state : States.ALL) {
                TEST.spreadChangesNothing(spread, state);
            }
        }
    }

    private static void put() {
        TEST.sentence("2 put", "The variable's map gets the value under the key.");
        TEST.run("""
            put 0 5 MAX -> 1; get 0 5 0 -> MAX; put 0 5 MIN -> 1; get 0 5 0 -> MIN; put 0 5 0 -> 1
            map 0 -> 5:0
            """);
        TEST.sentence("2 put",
            "FULL if the key is absent and the map has 10 entries: the new key below, between and above");
        String nineEntries = """
            put 0 10 0; put 0 12 0; put 0 14 0; put 0 16 0; put 0 18 0; put 0 20 0; put 0 22 0; put 0 24 0
            put 0 26 0 -> 9
            """;
        List<String> newKeys = List.of("MIN", "9", "11", "17", "27", "29", "MAX");
        TEST.runForEach("K", newKeys, nineEntries + "put 0 K 1 -> 10; get 0 K 0 -> 1");
        TEST.runForEach("K", newKeys, nineEntries + """
            put 0 28 0 -> 10
            put 0 K 1 -> FULL; get 0 K 5 -> 5
            map 0 -> 10:0 12:0 14:0 16:0 18:0 20:0 22:0 24:0 26:0 28:0
            """);
        TEST.sentence("2 put", "FULL if the key is absent and the map has 10 entries: not if the key is there");
        TEST.runForEach("K", 9, "fill 0 0 10; put 0 K 77 -> 10; get 0 K 0 -> 77; size 0 -> 10; put 0 10 0 -> FULL");
        TEST.sentence("2 put", "FULL if the key is absent and the map has 10 entries: not after a remove");
        TEST.run("fill 0 0 10; put 0 10 0 -> FULL; remove 0 4; put 0 10 0 -> 10; put 0 4 0 -> FULL; keyAt 0 9 -> 10");
        TEST.sentence("2 put", "Answers the number of entries then.");
        TEST.run("""
            put 0 0 0 -> 1; put 0 1 0 -> 2; put 0 2 0 -> 3; put 0 3 0 -> 4; put 0 4 0 -> 5; put 0 5 0 -> 6
            put 0 6 0 -> 7; put 0 7 0 -> 8; put 0 8 0 -> 9; put 0 9 0 -> 10; put 0 0 1 -> 10
            put 0 9 1 -> 10
            """);
    }

    private static void remove() {
        TEST.sentence("3 remove", "Takes the key out of the variable's map: of a full map");
        TEST.run("fill 0 0 10; remove 0 0 -> 1; map 0 -> 1:1 2:2 3:3 4:4 5:5 6:6 7:7 8:8 9:9");
        TEST.run("fill 0 0 10; remove 0 9 -> 1; map 0 -> 0..8");
        TEST.run("fill 0 0 10; remove 0 5 -> 1; map 0 -> 0:0 1:1 2:2 3:3 4:4 6:6 7:7 8:8 9:9");
        TEST.sentence("3 remove", "Takes the key out of the variable's map: of a map of one entry");
        TEST.run("""
            put 0 MIN 1; remove 0 MIN -> 1; map 0 -> empty; remove 0 MIN -> 0; put 0 MAX 1
            remove 0 MAX -> 1; size 0 -> 0
            """);
        TEST.run("put 0 5 0; remove 0 5 -> 1; size 0 -> 0; get 0 5 9 -> 9");
        TEST.sentence("3 remove", "Answers 1, or 0 if the key is absent: of an empty map");
        TEST.run("remove 0 0 -> 0; remove 0 MIN -> 0; remove 0 MAX -> 0; map 0 -> empty");
        TEST.sentence("3 remove", "Answers 1, or 0 if the key is absent: below, between and above the keys");
        TEST.run("""
            put 0 10 1; put 0 12 2; remove 0 9 -> 0; remove 0 11 -> 0; remove 0 13 -> 0; remove 0 MIN -> 0
            remove 0 MAX -> 0; map 0 -> 10:1 12:2
            """);
        TEST.run("fill 0 0 10; remove 0 -1 -> 0; remove 0 10 -> 0; map 0 -> 0..9");
    }

    private static void combine() {
        String maps = "put 0 1 10; put 0 2 20; put 1 2 200; put 1 3 300;";
        String[] results = {"1:10 2:20", "1:10 2:200 3:300", "1:10", "2:20"};
        String[] sizes = {"2", "3", "1", "1"};
        TEST.sentence("4 combine", "With A and B the maps of a and b before the call");
        for (int kind = 0; kind < 4; kind++) {
            String combine = maps + "put 2 9 9; combine " + kind + " 0 1 TO -> " + sizes[kind]
                + "; map TO -> " + results[kind];
            TEST.run(Sentences.with("TO", 0, combine) + "; map 1 -> 2:200 3:300; map 2 -> 9:9");
            TEST.run(Sentences.with("TO", 1, combine) + "; map 0 -> 1:10 2:20; map 2 -> 9:9");
            TEST.run(Sentences.with("TO", 2, combine) + "; map 0 -> 1:10 2:20; map 1 -> 2:200 3:300");
            TEST.run(maps + "combine " + kind + " 0 0 0; map 0 -> " + (kind == 2 ? "empty" : "1:10 2:20"));
        }
        TEST.sentence("4 combine", "kinds 0 to 3 of empty maps");
        TEST.runForEach("K", 3, "put 2 9 9; combine K 0 1 2 -> 0; map 2 -> empty");
        TEST.run("put 0 1 10; put 2 9 9; combine 0 0 1 2 -> 1; map 2 -> 1:10; combine 0 1 0 2 -> 0; map 2 -> empty");
        TEST.run("""
            put 0 1 10; put 2 9 9; combine 1 0 1 2 -> 1; map 2 -> 1:10; put 2 9 9; combine 1 1 0 2 -> 1
            map 2 -> 1:10
            """);
        TEST.run("put 0 1 10; put 2 9 9; combine 2 0 1 2 -> 1; map 2 -> 1:10; combine 2 1 0 2 -> 0; map 2 -> empty");
        TEST.run("""
            put 0 1 10; put 2 9 9; combine 3 0 1 2 -> 0; map 2 -> empty; put 2 9 9; combine 3 1 0 2 -> 0
            map 2 -> empty
            """);
        TEST.sentence("4 combine", "kinds 0, 2 and 3 of full maps are never FULL");
        TEST.run("fill 0 0 10; fill 1 20 10; fill 2 40 10; combine 0 0 1 2 -> 10; map 2 -> 0..9");
        TEST.run("""
            fill 0 0 10; fill 1 20 10; fill 2 40 10; combine 2 0 1 2 -> 10; map 2 -> 0..9
            combine 2 0 0 2 -> 0; map 2 -> empty
            """);
        TEST.run("fill 0 0 10; fill 1 0 10; fill 2 40 10; put 1 9 90; combine 3 0 1 2 -> 10; map 2 -> 0..9");
        TEST.run("fill 0 0 10; fill 1 20 10; fill 2 40 10; combine 3 0 1 2 -> 0; map 2 -> empty");
        TEST.sentence("4 combine", "kinds 1 to 3 at the least and the greatest key");
        TEST.run("put 0 MIN 1; put 0 MAX 2; put 1 MAX 3; put 1 0 4; combine 1 0 1 2 -> 3; map 2 -> MIN:1 0:4 MAX:3;"
            + "combine 2 0 1 2 -> 1; map 2 -> MIN:1; combine 3 0 1 2 -> 1; map 2 -> MAX:2");
    }

    private static void combineFull() {
        TEST.sentence("4 combine", "A result of more than 10 entries: FULL: not 9 and 10 entries");
        TEST.run("fill 0 0 5; fill 1 5 4; combine 1 0 1 2 -> 9; combine 1 1 0 3 -> 9; same 2 3 -> true; size 2 -> 9");
        TEST.run("""
            fill 0 0 5; fill 1 5 5; combine 1 0 1 2 -> 10; combine 1 1 0 3 -> 10; same 2 3 -> true
            size 2 -> 10
            """);
        TEST.run("fill 0 0 10; combine 1 0 1 2 -> 10; map 2 -> 0..9; combine 1 1 0 3 -> 10; map 3 -> 0..9");
        TEST.run("""
            fill 0 0 10; fill 1 0 10; put 1 3 33; combine 1 0 1 2 -> 10
            map 2 -> 0:0 1:1 2:2 3:33 4:4 5:5 6:6 7:7 8:8 9:9
            """);
        TEST.run("fill 0 0 9; fill 1 8 2; combine 1 0 1 0 -> 10; map 0 -> 0..7 8:0 9:1");
        TEST.sentence("4 combine", "A result of more than 10 entries: FULL: 11 and 20 entries");
        TEST.run("""
            fill 0 0 5; fill 1 5 6; put 2 7 7; combine 1 0 1 2 -> FULL; map 2 -> 7:7
            combine 1 1 0 2 -> FULL; map 2 -> 7:7
            """);
        TEST.run("""
            fill 0 0 10; put 1 10 0; combine 1 0 1 0 -> FULL; map 0 -> 0..9; combine 1 0 1 1 -> FULL
            map 1 -> 10:0
            """);
        TEST.run("""
            fill 0 0 10; put 1 -1 0; combine 1 1 0 0 -> FULL; map 0 -> 0..9; combine 1 1 0 1 -> FULL
            map 1 -> -1:0
            """);
        TEST.run("fill 0 0 10; fill 1 20 10; combine 1 0 1 0 -> FULL; combine 1 0 1 1 -> FULL; combine 1 1 0 2 -> FULL;"
            + "map 0 -> 0..9; map 1 -> 20..29; map 2 -> empty");
        TEST.sentence("4 combine",
            "Else the variable to holds the result: nothing is left of what it held or of a FULL call");
        TEST.run("fill 0 0 10; fill 1 20 10; combine 1 0 1 2 -> FULL; combine 2 1 0 2 -> 10; map 2 -> 20..29;"
            + "combine 3 0 0 2 -> 10; map 2 -> 0..9; combine 0 3 0 2 -> 0; map 2 -> empty");
    }

    private static void get() {
        TEST.sentence("5 get", "The value under the key in the variable's map; absent if there is none");
        TEST.run("""
            get 0 0 7 -> 7; get 0 0 MIN -> MIN; get 0 MAX MAX -> MAX; put 0 0 0; get 0 0 7 -> 0; put 0 5 -1
            get 0 5 7 -> -1; get 0 -1 7 -> 7; get 0 1 7 -> 7; get 0 4 -2 -> -2; get 0 6 7 -> 7; remove 0 5
            get 0 5 7 -> 7
            """);
        TEST.run("""
            fill 0 0 10; get 0 0 77 -> 0; get 0 9 77 -> 9; get 0 10 77 -> 77; get 0 -1 77 -> 77
            get 1 0 77 -> 77
            """);
        TEST.run("""
            put 0 MIN 1; put 0 MAX 2; get 0 MIN 7 -> 1; get 0 MAX 7 -> 2; get 0 -2147483647 7 -> 7
            get 0 2147483646 7 -> 7
            """);
        TEST.sentence("5 get", "absent if the number is out of range");
        TEST.runForEach("N", List.of("0", "-1", "MIN", "MAX", "5"), """
            put 0 1 1; put 3 1 1
            get -1 1 N -> N; get 4 1 N -> N
            get 0 1 N -> 1; get 3 1 N -> 1
            """);
    }

    private static void sizeAndKeyAt() {
        TEST.sentence("6 size", "The number of entries of the variable's map");
        TEST.runForEach("V", 3, """
            size V -> 0; put V 1 1; size V -> 1; fill V 1 9; size V -> 9; put V 0 0; size V -> 10
            put V 10 0; size V -> 10; remove V 0; size V -> 9
            """);
        TEST.sentence("7 keyAt",
            "The key at a place (0: the least) of the variable's map in ascending order; 0 if there is none");
        TEST.run("keyAt 0 0 -> 0; keyAt 0 -1 -> 0; keyAt 0 1 -> 0; keyAt 0 9 -> 0; keyAt 0 MAX -> 0; keyAt 0 MIN -> 0");
        TEST.run("put 0 5 1; keyAt 0 -1 -> 0; keyAt 0 0 -> 5; keyAt 0 1 -> 0; keyAt 0 9 -> 0; keyAt 0 10 -> 0");
        TEST.run("fill 0 5 9; keyAt 0 0 -> 5; keyAt 0 8 -> 13; keyAt 0 9 -> 0");
        TEST.runForEach("V", 3, """
            fill 0 20 10; fill 1 20 10; fill 2 20 10; fill 3 20 10; keyAt V -1 -> 0; keyAt V 0 -> 20
            keyAt V 9 -> 29; keyAt V 10 -> 0; keyAt V 11 -> 0; keyAt V MIN -> 0; keyAt V MAX -> 0
            """);
        TEST.run("""
            fill 0 20 10; remove 0 29; keyAt 0 8 -> 28; keyAt 0 9 -> 0; remove 0 20; keyAt 0 0 -> 21
            keyAt 0 8 -> 0
            """);
    }

    private static void same() {
        TEST.sentence("8 same", "Whether both numbers are in range");
        TEST.run("""
            same 0 3 -> true; same 3 0 -> true; same 0 4 -> false; same 4 0 -> false; same -1 0 -> false
            same 0 -1 -> false; same 4 4 -> false; same -1 -1 -> false; same MIN MIN -> false
            same MAX MAX -> false; same -1 4 -> false
            """);
        TEST.sentence("8 same", "equal maps (the same keys with the same values): empty, one entry");
        TEST.run("""
            same 0 1 -> true; put 0 0 0; same 0 1 -> false; same 1 0 -> false; put 1 0 0; same 0 1 -> true
            put 1 0 1; same 0 1 -> false; remove 0 0; remove 1 0; same 0 1 -> true
            """);
        TEST.run("""
            put 0 0 5; put 1 1 5; same 0 1 -> false; put 0 1 5; same 0 1 -> false; same 1 0 -> false
            put 1 0 5; same 0 1 -> true
            """);
        TEST.sentence("8 same", "equal maps (the same keys with the same values): 10 entries");
        TEST.runForEach("K", 9, """
            fill 0 0 10; fill 1 0 10; same 0 1 -> true
            put 1 K 77; same 0 1 -> false; same 1 0 -> false
            remove 1 K; same 0 1 -> false; same 1 0 -> false
            put 1 K K; same 0 1 -> true
            """);
        TEST.run("""
            fill 0 0 10; fill 1 0 9; same 0 1 -> false; same 1 0 -> false; put 1 10 9; same 0 1 -> false
            same 1 0 -> false
            """);
        TEST.sentence("8 same", "equal maps, in whatever order and by whatever call the entries came");
        TEST.run("""
            put 0 1 1; put 0 2 2; put 0 3 3; put 1 3 3; put 1 4 4; put 1 1 1; put 1 2 2; remove 1 4
            same 0 1 -> true; begin 0; adjust 0 0 2 2; adjust 0 0 3 3; adjust 0 0 1 1; load 0 0 2
            same 0 2 -> true; same 2 1 -> true; same 2 2 -> true
            """);
    }

    public static void main(String[] args) {
        spread();
        put();
        remove();
        combine();
        combineFull();
        get();
        sizeAndKeyAt();
        same();
        TEST.end();
    }
}
