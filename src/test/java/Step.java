import java.util.ArrayList;
import java.util.HashMap;
import java.util.List;
import java.util.Map;

/**
 * One line of a script (see Script): {@code [times x] name numbers [-> due]}.
 * Numbers may be told as MIN, MAX, true, false, REFUSED, FULL and CONFLICT.
 */
record Step(String line, int times, String name, int[] numbers, String due) {
    private static final Map<String, Integer> WORDS = Map.of(
        "MIN", Integer.MIN_VALUE, "MAX", Integer.MAX_VALUE, "false", 0, "true", 1,
        "REFUSED", -1, "FULL", -2, "CONFLICT", -3);
    // The same script is run on many objects.
    private static final Map<String, List<Step>> KNOWN = new HashMap<>();

    static List<Step> stepsOf(String script) {
        return KNOWN.computeIfAbsent(script, Step::read);
    }

    private static List<Step> read(String script) {
        List<Step> steps = new ArrayList<>();
        for (String line : script.split("[\n;]")) {
            if (!line.isBlank()) {
                steps.add(stepOf(line.strip()));
            }
        }
        return steps;
    }

    private static Step stepOf(String line) {
        String[] sides = line.split("->");
        String[] words = sides[0].strip().split(" +");
        boolean repeated = words.length > 1 && words[1].equals("x");
        int first = repeated ? 2 : 0;
        int[] numbers = new int[words.length - first - 1];
        for (int i = 0; i < numbers.length; i++) {
            numbers[i] = number(words[first + 1 + i]);
        }
        int times = repeated ? number(words[0]) : 1;
        return new Step(line, times, words[first], numbers, sides.length > 1 ? sides[1].strip() : null);
    }

    static int number(String word) {
        Integer known = WORDS.get(word);
        return known != null ? known : Integer.parseInt(word);
    }

    /** The number that is due; 3..7 is 3 at the first of the times, 4 at the second, and so on. */
    String numberDue(int time) {
        String[] ends = due.split("\\.\\.");
        if (ends.length == 2 && number(ends[1]) - number(ends[0]) != times - 1) {
            throw new IllegalArgumentException(line);
        }
        return Integer.toString(ends.length == 2 ? number(ends[0]) + time : number(due));
    }

    /** The map that is due: key:value, in ascending order; 3..7 is 3:0 4:1 5:2 6:3 7:4, and empty is no entry. */
    String mapDue() {
        List<String> entries = new ArrayList<>();
        for (String word : due.equals("empty") ? new String[0] : due.split(" +")) {
            if (word.contains("..")) {
                String[] ends = word.split("\\.\\.");
                for (int key = number(ends[0]); key <= number(ends[1]); key++) {
                    entries.add(key + ":" + (key - number(ends[0])));
                }
            } else {
                String[] entry = word.split(":");
                entries.add(number(entry[0]) + ":" + number(entry[1]));
            }
        }
        return String.join(" ", entries);
    }
}
