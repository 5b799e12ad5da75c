import java.util.HashMap;
import java.util.List;
import java.util.Map;

/** Tests that bear the sentences of the document as their names. */
final class Sentences {
    private final Checks checks = new Checks();
    private final List<String> laterRuns = LaterRuns.all();
    private final Map<String, List<List<String>>> answersAfter = new HashMap<>();

    /** The runs that follow test this sentence. */
    void sentence(String place, String words) {
        checks.startPart(place + ": " + words + "\n   ");
    }

    void run(String script) {
        new Script(checks, 0).run(script);
    }

    /** One run for each of the numbers 0 .. last, which stands where the letter stands. */
    void runForEach(String letter, int last, String script) {
        for (int number = 0; number <= last; number++) {
            run(with(letter, number, script));
        }
    }

    void runForEach(String letter, List<String> words, String script) {
        for (String word : words) {
            run(with(letter, word, script));
        }
    }

    static String with(String letter, int number, String script) {
        return with(letter, Integer.toString(number), script);
    }

    static String with(String letter, String word, String script) {
        return script.replaceAll("\\b" + letter + "\\b", word);
    }

    void changesNothing(String before, String call) {
        haveTheSameEffect(before, call, "");
    }

    /** Whatever is called later, it is answered the same after the one as after the other. */
    void haveTheSameEffect(String before, String one, String other) {
        run(before + ";" + one);
        compare(before + ";" + one, laterAnswers(0, before + ";" + one), before + ";" + other);
    }

    /** Whatever is called after the run, it is answered as by an object with spread 0. */
    void spreadChangesNothing(int spread, String before) {
        new Script(checks, spread).run(before);
        compare("spread " + spread + ";" + before, laterAnswers(spread, before), before);
    }

    private void compare(String name, List<List<String>> got, String other) {
        List<List<String>> want = answersAfter.computeIfAbsent(other, script -> laterAnswers(0, script));
        for (int i = 0; i < laterRuns.size(); i++) {
            String call = "after " + name.replace('\n', ';') + " the run " + laterRuns.get(i);
            checks.due(call, want.get(i).toString(), got.get(i).toString());
        }
    }

    private List<List<String>> laterAnswers(int spread, String before) {
        return laterRuns.stream().map(later -> answersTo(spread, before, later)).toList();
    }

    private List<String> answersTo(int spread, String before, String later) {
        Script script = new Script(checks, spread);
        script.answers(before);
        return script.answers(later);
    }

    void end() {
        checks.end();
    }
}
