import java.io.ByteArrayOutputStream;
import java.io.IOException;
import java.io.PrintStream;
import java.lang.reflect.Method;
import java.lang.reflect.Modifier;
import java.net.URI;
import java.net.URL;
import java.net.URLClassLoader;
import java.nio.charset.StandardCharsets;
import java.nio.file.Files;
import java.nio.file.Path;
import java.util.ArrayList;
import java.util.Arrays;
import java.util.List;
import java.util.regex.Matcher;
import java.util.regex.Pattern;
import java.util.stream.Stream;
import javax.tools.JavaCompiler;
import javax.tools.JavaFileObject;
import javax.tools.SimpleJavaFileObject;
import javax.tools.ToolProvider;

/** README.md's examples answer and print what it says, and it names every call and every test. */
public final class ReadmeTest extends TestKit {
    private static final Pattern CALL = Pattern.compile("f\\.(\\w+)\\(([^)]*)\\);\\s*// (-?\\w+).*");

    /** What stands between the fences of one kind, in order. */
    private static List<String> fenced(String readme, String kind) {
        List<String> found = new ArrayList<>();
        Matcher fence = Pattern.compile("(?s)```" + kind + "\n(.*?)```").matcher(readme);
        while (fence.find()) {
            found.add(fence.group(1));
        }
        return found;
    }

    private static Method named(String name) {
        for (Method method : FlowFlattener.class.getDeclaredMethods()) {
            if (method.getName().equals(name) && Modifier.isPublic(method.getModifiers())) {
                return method;
            }
        }
        throw new IllegalArgumentException("README.md calls " + name + ", which there is not");
    }

    private static Object argument(Class<?> type, String text) {
        return type == boolean.class ? (Object) Boolean.valueOf(text) : (Object) Integer.valueOf(text);
    }

    private static String meant(String answer) {
        return switch (answer) {
            case "BAD" -> String.valueOf(FlowFlattener.BAD);
            case "WRONG" -> String.valueOf(FlowFlattener.WRONG);
            case "NONE" -> String.valueOf(FlowFlattener.NONE);
            default -> answer;
        };
    }

    private static void shortExample(String example) throws ReflectiveOperationException {
        FlowFlattener f = new FlowFlattener();
        String[] lines = example.split("\n");
        due("the first line makes an object", lines[0].equals("FlowFlattener f = new FlowFlattener();"), true);
        for (int n = 1; n < lines.length; n++) {
            Matcher call = CALL.matcher(lines[n]);
            due("a call with its answer: " + lines[n], call.matches(), true);
            Method method = named(call.group(1));
            String[] texts = call.group(2).isEmpty() ? new String[0] : call.group(2).split(", ");
            Object[] arguments = new Object[texts.length];
            for (int i = 0; i < texts.length; i++) {
                arguments[i] = argument(method.getParameterTypes()[i], texts[i]);
            }
            String got = String.valueOf(method.invoke(f, arguments));
            if (!got.equals(meant(call.group(3)))) {
                fault(lines[n] + " answered " + got);
            }
        }
    }

    private static final class Source extends SimpleJavaFileObject {
        private final String text;

        Source(String text) {
            super(URI.create("string:///Example.java"), JavaFileObject.Kind.SOURCE);
            this.text = text;
        }

        @Override
        public CharSequence getCharContent(boolean ignoreEncodingErrors) {
            return text;
        }
    }

    private static boolean compiles(String program, Path classes) {
        JavaCompiler compiler = ToolProvider.getSystemJavaCompiler();
        List<String> options = List.of("--release", "17", "-cp", System.getProperty("java.class.path"), "-d", classes.toString());
        return compiler.getTask(null, null, null, options, null, List.of(new Source(program))).call();
    }

    private static String printed(Path classes) throws Exception {
        PrintStream before = System.out;
        ByteArrayOutputStream kept = new ByteArrayOutputStream();
        try (URLClassLoader loader = new URLClassLoader(new URL[] {classes.toUri().toURL()})) {
            System.setOut(new PrintStream(kept, true, StandardCharsets.UTF_8));
            loader.loadClass("Example").getMethod("main", String[].class).invoke(null, (Object) new String[0]);
        } finally {
            System.setOut(before);
        }
        return kept.toString(StandardCharsets.UTF_8).replace("\r\n", "\n");
    }

    private static void wholeProgram(String program, String output) throws Exception {
        Path classes = Files.createTempDirectory("readme");
        try {
            boolean compiled = compiles(program, classes);
            due("the whole program compiles", compiled, true);
            if (compiled) {
                samePrinted(printed(classes).split("\n"), output.split("\n"));
            }
        } finally {
            Files.deleteIfExists(classes.resolve("Example.class"));
            Files.deleteIfExists(classes);
        }
    }

    private static void samePrinted(String[] got, String[] want) {
        due("so many lines are printed", got.length, want.length);
        for (int n = 0; n < Math.min(got.length, want.length); n++) {
            if (!got[n].equals(want[n])) {
                fault("printed is \"" + got[n] + "\", README.md says \"" + want[n] + "\"");
            }
        }
    }

    private static void namesEveryCall(String readme) {
        for (Method method : FlowFlattener.class.getDeclaredMethods()) {
            if (Modifier.isPublic(method.getModifiers())) {
                due("README.md names " + method.getName(), readme.contains("`" + method.getName() + "("), true);
            }
        }
        for (String constant : List.of("BAD", "WRONG", "NONE")) {
            due("README.md names " + constant, readme.contains("`" + constant + "`"), true);
        }
    }

    private static void namesEveryTest(String readme) throws IOException {
        for (String directory : List.of("src/test/java", "src/test/support")) {
            try (Stream<Path> files = Files.list(Path.of(directory))) {
                for (Path file : files.toList()) {
                    String name = file.getFileName().toString().replace(".java", "");
                    due("README.md names " + name, readme.contains("`" + name + "`"), true);
                }
            }
        }
    }

    /** Each file or directory of the project that README.md's commands name is there. */
    private static void commandsNameWhatIsThere(String readme) {
        List<String> paths = new ArrayList<>();
        for (String commands : fenced(readme, "sh")) {
            paths.addAll(Arrays.asList(commands.trim().split("\\s+")));
        }
        paths.removeIf(path -> !path.startsWith("src/") && !path.startsWith(".ci/"));
        due("README.md says how the tests are run", paths.contains(".ci/run"), true);
        for (String path : paths) {
            due(path + " is there", Files.exists(Path.of(path)), true);
        }
        due(".ci/run can be run", Files.isExecutable(Path.of(".ci/run")), true);
    }

    public static void main(String[] args) throws Exception {
        String readme = Files.readString(Path.of("README.md"));
        List<String> java = fenced(readme, "java");
        List<String> text = fenced(readme, "text");
        due("examples in Java", java.size(), 2);
        due("what they print", text.size(), 1);
        shortExample(java.get(0));
        wholeProgram(java.get(1), text.get(0));
        namesEveryCall(readme);
        namesEveryTest(readme);
        commandsNameWhatIsThere(readme);
        finish();
    }
}
