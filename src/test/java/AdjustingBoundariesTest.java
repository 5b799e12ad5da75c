import java.util.Map;
import java.util.TreeMap;

/** The sentences of the document on adjusting a map, at each of the five places where a map is adjusted. */
public final class AdjustingBoundariesTest {
    private static final Sentences TEST = new Sentences();
    private static final int MIN = Integer.MIN_VALUE;
    private static final int MAX = Integer.MAX_VALUE;

    private static final String SET_REF_0 = "begin 2; store 2 0 0; finish 2 true -> 1;";

    private static String puts(Map<Integer, Integer> map) {
        StringBuilder script = new StringBuilder();
        map.forEach((key, value) -> script.append("put 0 " + key + " " + value + ";"));
        return script.toString();
    }

    private static String actions(Map<Integer, Integer> map) {
        StringBuilder script = new StringBuilder();
        map.forEach((key, value) -> script.append("send -1 1 " + key + " " + value + "; act 1 -> 1;"));
        return script.toString();
    }

    private static String text(Map<Integer, Integer> map) {
        StringBuilder text = new StringBuilder();
        map.forEach((key, value) -> text.append(key + ":" + value + " "));
        return text.isEmpty() ? "empty" : text.toString();
    }

    private static void adjusts(Map<Integer, Integer> map, int key, int delta, int sum) {
        Map<Integer, Integer> after = new TreeMap<>(map);
        after.put(key, sum);
        everywhere(map, key, delta, Integer.toString(after.size()), after, "1");
    }

    private static void isImpossible(Map<Integer, Integer> map, int key, int delta) {
        everywhere(map, key, delta, "FULL", map, "FULL");
    }

    private static void everywhere(
            Map<Integer, Integer> map, int key, int delta, String adjusted, Map<Integer, Integer> after, String done) {
        String adjust = "adjust 0 0 " + key + " " + delta;
        String check = adjust + " -> " + adjusted + "; seen 0 0 -> " + text(after);
        TEST.run(puts(map) + SET_REF_0 + "begin 0;" + check);
        TEST.run(puts(map) + "begin 0; store 0 0 0;" + check);
        // The empty map can't be COMMUTED: adjusting leaves the key there.
        for (int present : map.keySet()) {
            TEST.run(puts(map) + SET_REF_0 + "begin 0; adjust 0 0 " + present + " 0;" + check);
        }
        TEST.run(puts(map) + "begin 0;" + adjust + " -> 1;" + SET_REF_0
            + "finish 0 true -> " + done + "; seen -1 0 -> " + text(after));
        TEST.run(actions(map) + "send -1 1 " + key + " " + delta + "; act 1 -> " + done
            + "; waiting 1 -> 0; seen -1 5 -> " + text(after));
    }

    private static void adjustsValue(int value, int delta, int sum) {
        adjusts(Map.of(7, value), 7, delta, sum);
        adjusts(new TreeMap<>(Map.of(6, 60, 7, value, 8, 80)), 7, delta, sum);
    }

    private static void adjustsAbsent(int delta) {
        adjusts(Map.of(), 7, delta, delta);
        adjusts(Map.of(7, 70), 6, delta, delta);
        adjusts(Map.of(7, 70), 8, delta, delta);
        adjusts(new TreeMap<>(Map.of(6, 60, 8, 80)), 7, delta, delta);
    }

    // The keys 10, 12, 14, .. leave absent keys below, between and above.
    private static Map<Integer, Integer> evenKeys(int count) {
        Map<Integer, Integer> map = new TreeMap<>();
        for (int i = 0; i < count; i++) {
            map.put(10 + 2 * i, 100 + i);
        }
        return map;
    }

    public static void main(String[] args) {
        TEST.sentence("Terms", "the value under the key becomes value + delta (wrapping): past the greatest int");
        adjustsValue(MAX - 1, 1, MAX);
        adjustsValue(MAX, 1, MIN);
        adjustsValue(1, MAX, MIN);
        adjustsValue(MAX, MAX, -2);
        TEST.sentence("Terms", "the value under the key becomes value + delta (wrapping): past the least int");
        adjustsValue(MIN + 1, -1, MIN);
        adjustsValue(MIN, -1, MAX);
        adjustsValue(-1, MIN, MAX);
        adjustsValue(MIN, MIN, 0);
        TEST.sentence("Terms", "an absent key counts as value 0 and is then present");
        adjustsAbsent(5);
        adjustsAbsent(-5);
        adjustsAbsent(MIN);
        adjustsAbsent(MAX);
        adjusts(Map.of(7, 70), MIN, 5, 5);
        adjusts(Map.of(7, 70), MAX, 5, 5);
        TEST.sentence("Terms", "an absent key is then present, also if the sum is 0");
        adjustsAbsent(0);
        adjustsValue(5, -5, 0);
        adjustsValue(-5, 5, 0);
        adjustsValue(0, 0, 0);
        TEST.sentence("Terms", "It is impossible if the key is absent and the map has 10 entries: not with 9");
        for (int key : new int[] {MIN, 9, 11, 17, 27, MAX}) {
            adjusts(evenKeys(9), key, 5, 5);
        }
        TEST.sentence("Terms", "It is impossible if the key is absent and the map has 10 entries.");
        for (int key : new int[] {MIN, 9, 11, 17, 27, 29, MAX}) {
            isImpossible(evenKeys(10), key, 5);
            isImpossible(evenKeys(10), key, 0);
        }
        TEST.sentence("Terms",
            "It is impossible if the key is absent and the map has 10 entries: not if it is present");
        for (int place = 0; place < 10; place++) {
            adjusts(evenKeys(10), 10 + 2 * place, 5, 105 + place);
        }
        TEST.end();
    }
}
