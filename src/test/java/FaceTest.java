import java.lang.reflect.Field;
import java.lang.reflect.Member;
import java.lang.reflect.Method;
import java.lang.reflect.Modifier;
import java.util.ArrayList;
import java.util.Arrays;
import java.util.List;
import java.util.TreeSet;

/** The class shows the document's face and nothing else, and no private method bears the name of a public one. */
public final class FaceTest {
    private static final List<String> METHODS = List.of(
            "void clear()", "int add(int, int)", "boolean handler(int, int, int)", "int check()", "int depth(int)",
            "int flatten(int)", "int length(boolean)", "int operation(boolean, int)", "int operand(boolean, int)",
            "int handlerAt(boolean, int, int)", "int blocks()", "int block(int, int)", "boolean starter(int, int)",
            "int run(boolean, int)", "int result()", "int steps()", "int emits()", "int emitted(int)", "int local(int)");

    private static int wrong = 0;

    private static void due(String what, Object got, Object want) {
        if (!got.equals(want)) {
            wrong++;
            System.out.println(what + " is " + got + ", due is " + want);
        }
    }

    private static String text(Method method) {
        List<String> types = new ArrayList<>();
        for (Class<?> type : method.getParameterTypes()) {
            types.add(type.getName());
        }
        return method.getReturnType().getName() + " " + method.getName() + "(" + String.join(", ", types) + ")";
    }

    private static boolean isOpen(Member member) {
        return !Modifier.isPrivate(member.getModifiers()) && !member.isSynthetic();
    }

    private static void publicNamesStayAlone(Class<?> type, TreeSet<String> publicNames) {
        for (Method method : type.getDeclaredMethods()) {
            due("a method " + method.getName() + " in " + type.getName(), publicNames.contains(method.getName()), false);
        }
    }

    public static void main(String[] args) throws Exception {
        Class<FlowFlattener> type = FlowFlattener.class;
        TreeSet<String> open = new TreeSet<>();
        TreeSet<String> openNames = new TreeSet<>();
        for (Method method : type.getDeclaredMethods()) {
            if (isOpen(method)) {
                due(method.getName() + " public", Modifier.isPublic(method.getModifiers()), true);
                due(method.getName() + " static", Modifier.isStatic(method.getModifiers()), false);
                open.add(text(method));
                openNames.add(method.getName());
            }
        }
        due("the public methods", open, new TreeSet<>(METHODS));
        for (Method method : type.getDeclaredMethods()) {
            if (!isOpen(method)) {
                due("a private method " + method.getName(), openNames.contains(method.getName()), false);
            }
        }
        for (Class<?> inside : type.getDeclaredClasses()) {
            publicNamesStayAlone(inside, openNames);
        }

        TreeSet<String> fields = new TreeSet<>();
        for (Field field : type.getDeclaredFields()) {
            if (isOpen(field)) {
                due(field.getName() + " constant", Modifier.toString(field.getModifiers()), "public static final");
                fields.add(field.getName());
            }
        }
        due("the constants", fields, new TreeSet<>(Arrays.asList("BAD", "WRONG", "NONE")));
        due("BAD", FlowFlattener.BAD, -1);
        due("WRONG", FlowFlattener.WRONG, -2);
        due("NONE", FlowFlattener.NONE, Integer.MIN_VALUE);
        due("the class", Modifier.toString(type.getModifiers()), "public final");
        due("the constructors", type.getConstructors().length + " of " + type.getDeclaredConstructors().length, "1 of 1");
        due("the constructor's parameters", type.getConstructors()[0].getParameterCount(), 0);

        System.out.println(wrong == 0 ? "the face is as due" : wrong + " things are not as due");
        if (wrong != 0) {
            System.exit(1);
        }
    }
}
