import java.lang.reflect.Field;
import java.lang.reflect.Method;
import java.lang.reflect.Modifier;
import java.nio.file.Files;
import java.nio.file.Path;
import java.util.Arrays;
import java.util.List;
import java.util.Set;
import java.util.TreeSet;
import java.util.regex.Matcher;
import java.util.regex.Pattern;

/** The public face, and the rules of LANGUAGE.md that can be seen from outside or in the words of the source. */
public final class LanguageTest {
    private static final Path SOURCE = Path.of("src/main/java/TransactionalMaps.java");
    private static final Set<String> FACE = new TreeSet<>(List.of(
        "int put(int, int, int)", "int remove(int, int)", "int combine(int, int, int, int)",
        "int get(int, int, int)", "int size(int)", "int keyAt(int, int)", "boolean same(int, int)",
        "boolean begin(int)", "int load(int, int, int)", "int store(int, int, int)",
        "int adjust(int, int, int, int)", "int ensure(int, int)", "int send(int, int, int, int)",
        "int finish(int, boolean)", "int act(int)", "int waiting(int)"));
    private static final Set<String> CONSTANTS = new TreeSet<>(List.of("REFUSED", "FULL", "CONFLICT"));
    private static final Set<Class<?>> NUMBERS = Set.of(
        int.class, long.class, short.class, byte.class, char.class, boolean.class);
    private static final String FORBIDDEN =
        "\\b(float|double|String|Object|Math|Integer|Long|System|Arrays|import|package|throw|throws|try|catch|finally"
            + "|synchronized|assert|instanceof|null|class|interface|enum|record|var|protected|native|volatile)\\b|->|::|\"";

    private static final Checks CHECKS = new Checks();

    private static String text(Method method) {
        StringBuilder text = new StringBuilder(method.getReturnType() + " " + method.getName() + "(");
        for (Class<?> type : method.getParameterTypes()) {
            text.append(text.charAt(text.length() - 1) == '(' ? "" : ", ").append(type);
        }
        return text.append(')').toString();
    }

    private static boolean isAllowed(Class<?> type) {
        return NUMBERS.contains(type) || type.isArray() && NUMBERS.contains(type.getComponentType());
    }

    private static void checkMethods() {
        Set<String> face = new TreeSet<>();
        Set<String> names = new TreeSet<>();
        for (Method method : TransactionalMaps.class.getDeclaredMethods()) {
            if (Modifier.isPublic(method.getModifiers())) {
                face.add(text(method));
                names.add(method.getName());
            }
        }
        CHECKS.due("the public methods", FACE.toString(), face.toString());
        for (Method method : TransactionalMaps.class.getDeclaredMethods()) {
            if (!Modifier.isPublic(method.getModifiers())) {
                CHECKS.due(method + " is private", true, Modifier.isPrivate(method.getModifiers()));
                CHECKS.due(method + " has a public one's name", false, names.contains(method.getName()));
            }
            Class<?> answer = method.getReturnType();
            CHECKS.due(method + " answers a number or nothing", true, answer == void.class || NUMBERS.contains(answer));
            CHECKS.due(method + " has few parameters", true, method.getParameterCount() <= 7);
        }
    }

    private static void checkFields() {
        Set<String> constants = new TreeSet<>();
        int ordinary = 0;
        for (Field field : TransactionalMaps.class.getDeclaredFields()) {
            int modifiers = field.getModifiers();
            if (Modifier.isStatic(modifiers)) {
                boolean constant = Modifier.isFinal(modifiers) && Set.of(int.class, long.class).contains(field.getType());
                CHECKS.due(field + " is a constant", true, constant);
            } else {
                ordinary++;
                CHECKS.due(field + " has an allowed type", true, isAllowed(field.getType()));
            }
            if (Modifier.isPublic(modifiers)) {
                constants.add(field.getName());
            } else {
                CHECKS.due(field + " is private", true, Modifier.isPrivate(modifiers));
            }
        }
        CHECKS.due("the public fields", CONSTANTS.toString(), constants.toString());
        CHECKS.due("at most forty fields", true, ordinary <= 40);
    }

    private static void checkClass() {
        CHECKS.due("the constructors", "[public TransactionalMaps(int)]",
            Arrays.toString(TransactionalMaps.class.getDeclaredConstructors()));
        int modifiers = TransactionalMaps.class.getModifiers();
        CHECKS.due("public and final", true, Modifier.isPublic(modifiers) && Modifier.isFinal(modifiers));
        CHECKS.due("nested classes", 0, TransactionalMaps.class.getDeclaredClasses().length);
    }

    private static void checkSource() throws Exception {
        String source = Files.readString(SOURCE).replaceAll("//[^\n]*", "");
        String body = source.substring(source.indexOf('{'));
        Matcher words = Pattern.compile(FORBIDDEN).matcher(body);
        CHECKS.due("forbidden words", "none", words.find() ? words.group() : "none");
        Matcher arrays = Pattern.compile("(?m)^.*\\bnew\\b.*$").matcher(body);
        while (arrays.find()) {
            boolean inField = arrays.group().matches(" {4}private final \\w+\\[\\] \\w+ = new \\w+\\[[A-Z_]+\\];");
            CHECKS.due("made in a field's initialiser: " + arrays.group().strip(), true, inField);
        }
        Matcher callInCall = Pattern.compile("\\b(?!if|for|while|switch|return)\\w+\\([^()]*\\b\\w+\\(").matcher(
            body.replaceAll("\\b(if|for|while|switch) \\(", "$1 [("));
        CHECKS.due("calls inside the arguments of a call", "none", callInCall.find() ? callInCall.group() : "none");
    }

    public static void main(String[] args) throws Exception {
        CHECKS.startPart("language");
        checkClass();
        checkMethods();
        checkFields();
        checkSource();
        CHECKS.end();
    }
}
