import java.io.IOException;
import java.lang.reflect.Field;
import java.lang.reflect.Method;
import java.lang.reflect.Modifier;
import java.nio.file.Files;
import java.nio.file.Path;
import java.util.ArrayList;
import java.util.Arrays;
import java.util.List;
import java.util.Set;
import java.util.TreeMap;
import java.util.TreeSet;
import java.util.regex.Matcher;
import java.util.regex.Pattern;

/** What can be seen of ../shared/LANGUAGE.md in the program's text and its classes, rule by rule. */
public final class LanguageTest extends TestKit {
    private static final Path PROGRAM = Path.of("src/main/java/FlowFlattener.java");

    private static final int MOST_LINES = 60, MOST_PARAMETERS = 7, MOST_DEEP = 8, MOST_CLASSES = 12, MOST_FIELDS = 20;

    private static final Pattern METHOD = Pattern.compile("^( {4}| {8})(?:\\w+ )*?(?:[\\w\\[\\]]+ )?(\\w+)\\([^)]*\\) \\{$");

    /** A method of the program's text; a constructor bears its class's name. */
    private record Written(String name, List<String> lines) {
        String body() {
            return String.join("\n", lines.subList(1, lines.size()));
        }

        boolean makes() {
            return Character.isUpperCase(name.charAt(0));
        }
    }

    private static String textWithoutComments() throws IOException {
        String text = Files.readString(PROGRAM);
        return text.replaceAll("(?s)/\\*.*?\\*/", "").replaceAll("//[^\n]*", "");
    }

    /** A method ends with the brace that stands as far in as its head. */
    private static List<Written> methods(String text) {
        List<Written> found = new ArrayList<>();
        String[] lines = text.split("\n");
        for (int i = 0; i < lines.length; i++) {
            Matcher head = METHOD.matcher(lines[i]);
            if (head.matches()) {
                int end = i;
                while (!lines[end].equals(head.group(1) + "}")) {
                    end++;
                }
                found.add(new Written(head.group(2), Arrays.asList(lines).subList(i, end + 1)));
                i = end;
            }
        }
        return found;
    }

    private static List<Class<?>> classes() {
        List<Class<?>> all = new ArrayList<>(List.of(FlowFlattener.class));
        all.addAll(Arrays.asList(FlowFlattener.class.getDeclaredClasses()));
        return all;
    }

    private static void absent(String text, int rule, String... words) {
        for (String word : words) {
            due("rule " + rule + ": " + word + " in the program", Pattern.compile(word).matcher(text).find(), false);
        }
    }

    /** Every name that begins like a class's is one of the program's own: so no library is used at all. */
    private static void namesAreOwn(String text) {
        Set<String> own = new TreeSet<>();
        for (Class<?> type : classes()) {
            own.add(type.getSimpleName());
        }
        Matcher name = Pattern.compile("\\b[A-Z]\\w*[a-z]\\w*\\b").matcher(text);
        while (name.find()) {
            due("rule 4: " + name.group() + " is the program's own", own.contains(name.group()), true);
        }
    }

    private static void wordsThatRulesLeaveOut(String text) {
        absent(text, 0, "\\bpackage\\b", "\\bimport\\b");
        absent(text, 2, "->", "::");
        absent(text, 3, "\\bdouble\\b", "\\bfloat\\b", "\"");
        absent(text, 5, "static \\{");
        absent(text, 6, "\\bthrow\\b", "\\bthrows\\b", "\\btry\\b", "\\bcatch\\b", "\\bfinally\\b", "\\bsynchronized\\b", "\\bassert\\b");
        absent(text, 13, "\\bjava\\.", "\\bnative\\b");
    }

    private static void classesAndFields() {
        due("rule 11: so many classes", classes().size() <= MOST_CLASSES, true);
        for (Class<?> type : classes()) {
            boolean isInside = type != FlowFlattener.class;
            due("rule 1: " + type + " is static", !isInside || Modifier.isStatic(type.getModifiers()), true);
            due("rule 1: " + type + " is not shown", isInside && Modifier.isPublic(type.getModifiers()), false);
            due("rule 1: " + type + " has no class in it", isInside && type.getDeclaredClasses().length > 0, false);
            int fields = 0;
            for (Field field : type.getDeclaredFields()) {
                if (Modifier.isStatic(field.getModifiers())) {
                    due("rule 5: " + field + " is final", Modifier.isFinal(field.getModifiers()), true);
                    due("rule 5: " + field + " is a number or a row of them",
                            field.getType() == int.class || field.getType() == int[].class, true);
                } else {
                    fields++;
                }
            }
            due("rule 11: fields of " + type, fields <= MOST_FIELDS, true);
            for (Method method : type.getDeclaredMethods()) {
                due("rule 11: parameters of " + method, method.getParameterCount() <= MOST_PARAMETERS, true);
            }
        }
    }

    private static int methodsThereAre() {
        int all = 0;
        for (Class<?> type : classes()) {
            for (Method method : type.getDeclaredMethods()) {
                all += method.isSynthetic() ? 0 : 1;
            }
        }
        return all;
    }

    private static void shortMethods(List<Written> methods) {
        int seen = 0;
        for (Written method : methods) {
            due("rule 11: lines of " + method.name(), method.lines().size() <= MOST_LINES, true);
            seen += method.makes() ? 0 : 1;
        }
        due("the methods that were found in the text", seen, methodsThereAre());
    }

    /** The room is filled by constructors alone, so what a run makes hangs on its objects, not on its calls. */
    private static void callsMakeNothing(List<Written> methods) {
        for (Written method : methods) {
            if (!method.makes()) {
                due("rule 12: " + method.name() + " makes something", method.body().matches("(?s).*\\bnew\\b.*"), false);
            }
        }
    }

    /** By names, where two methods of one name count as one: this can only make the calls seem deeper. */
    private static TreeMap<String, Set<String>> callsByName(List<Written> methods) {
        Set<String> names = new TreeSet<>();
        for (Written method : methods) {
            names.add(method.name());
        }
        TreeMap<String, Set<String>> calls = new TreeMap<>();
        for (Written method : methods) {
            Set<String> called = calls.computeIfAbsent(method.name(), name -> new TreeSet<>());
            Matcher call = Pattern.compile("\\b(\\w+)\\(").matcher(method.body());
            while (call.find()) {
                if (names.contains(call.group(1))) {
                    called.add(call.group(1));
                }
            }
        }
        return calls;
    }

    private static int deepest(TreeMap<String, Set<String>> calls, String name, List<String> open) {
        if (open.contains(name) || open.size() > MOST_DEEP) {
            fault("rules 8 and 11: calls go round or too deep: " + open + " " + name);
            return 0;
        }
        open.add(name);
        int below = 0;
        for (String called : calls.get(name)) {
            below = Math.max(below, deepest(calls, called, open));
        }
        open.remove(open.size() - 1);
        return below + 1;
    }

    private static void shallowCalls(List<Written> methods) {
        TreeMap<String, Set<String>> calls = callsByName(methods);
        int most = 0;
        for (String name : calls.keySet()) {
            most = Math.max(most, deepest(calls, name, new ArrayList<>()));
        }
        due("rule 11: calls go so deep", most <= MOST_DEEP, true);
        due("the calls were found in the text", most >= 3, true);
    }

    public static void main(String[] args) throws IOException {
        String text = textWithoutComments();
        List<Written> methods = methods(text);
        wordsThatRulesLeaveOut(text);
        namesAreOwn(text);
        classesAndFields();
        shortMethods(methods);
        callsMakeNothing(methods);
        shallowCalls(methods);
        finish();
    }
}
