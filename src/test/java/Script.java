import java.util.ArrayList;
import java.util.List;

/**
 * A run of calls on one object, told as text, with a call on each line or between semicolons:
 * <pre>
 *   put 0 MIN 5 -> 1               the call, and the answer that is due
 *   8 x send -1 0 1 1 -> 1..8      eight calls; their answers count up
 *   finish 0 true -> CONFLICT
 *   fill 0 3 5                     not one call but five: put 0 3 0, put 0 4 1, .. put 0 7 4
 *   map 0 -> 3..7 9:MAX            reads a variable with size, keyAt and get
 *   seen 1 0 -> empty              load 1 0 3, and reads variable 3
 *   calls -> 24                    how many calls were made
 * </pre>
 */
final class Script {
    private static final int MOST_CALLS = 512;
    private static final int SEEN_IN = 3;

    private final Checks checks;
    private final TransactionalMaps maps;
    private int calls = 0;

    Script(Checks checks, int spread) {
        this.checks = checks;
        this.maps = new TransactionalMaps(spread);
    }

    /** Compares each answer with the one that is due, where one is told. */
    void run(String script) {
        for (Step step : Step.stepsOf(script)) {
            for (int time = 0; time < step.times(); time++) {
                String got = answer(step);
                if (step.due() != null) {
                    String want = readsAMap(step) ? step.mapDue() : step.numberDue(time);
                    checks.due(step.line(), want, got);
                }
            }
        }
    }

    List<String> answers(String script) {
        List<String> answers = new ArrayList<>();
        for (Step step : Step.stepsOf(script)) {
            for (int time = 0; time < step.times(); time++) {
                answers.add(answer(step));
            }
        }
        return answers;
    }

    private static boolean readsAMap(Step step) {
        return step.name().equals("map") || step.name().equals("seen");
    }

    private String answer(Step step) {
        int[] n = step.numbers();
        switch (step.name()) {
            case "fill":
                return fill(n[0], n[1], n[2]);
            case "map":
                return textOf(n[0]);
            case "seen":
                call("load", n[0], n[1], SEEN_IN);
                return textOf(SEEN_IN);
            case "calls":
                return Integer.toString(calls);
            default:
                return Integer.toString(call(step.name(), n));
        }
    }

    private String fill(int variable, int firstKey, int count) {
        int answer = 0;
        for (int i = 0; i < count; i++) {
            answer = call("put", variable, firstKey + i, i);
        }
        return Integer.toString(answer);
    }

    private String textOf(int variable) {
        StringBuilder text = new StringBuilder();
        int size = call("size", variable);
        for (int place = 0; place < size; place++) {
            int key = call("keyAt", variable, place);
            text.append(place == 0 ? "" : " ").append(key).append(':').append(call("get", variable, key, -99));
        }
        return text.toString();
    }

    // A boolean counts 1 or 0.
    private int call(String name, int... n) {
        calls++;
        if (calls > MOST_CALLS) {
            throw new IllegalStateException("the answers are free after " + MOST_CALLS + " calls");
        }
        return switch (name) {
            case "put" -> maps.put(n[0], n[1], n[2]);
            case "remove" -> maps.remove(n[0], n[1]);
            case "combine" -> maps.combine(n[0], n[1], n[2], n[3]);
            case "get" -> maps.get(n[0], n[1], n[2]);
            case "size" -> maps.size(n[0]);
            case "keyAt" -> maps.keyAt(n[0], n[1]);
            case "same" -> maps.same(n[0], n[1]) ? 1 : 0;
            case "begin" -> maps.begin(n[0]) ? 1 : 0;
            case "load" -> maps.load(n[0], n[1], n[2]);
            case "store" -> maps.store(n[0], n[1], n[2]);
            case "adjust" -> maps.adjust(n[0], n[1], n[2], n[3]);
            case "ensure" -> maps.ensure(n[0], n[1]);
            case "send" -> maps.send(n[0], n[1], n[2], n[3]);
            case "finish" -> maps.finish(n[0], n[1] != 0);
            case "act" -> maps.act(n[0]);
            case "waiting" -> maps.waiting(n[0]);
            default -> throw new IllegalArgumentException(name);
        };
    }
}
