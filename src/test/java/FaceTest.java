import java.lang.reflect.Field;
import java.lang.reflect.Member;
import java.lang.reflect.Method;
import java.lang.reflect.Modifier;
import java.util.Arrays;
import java.util.HashSet;
import java.util.Set;
import java.util.TreeSet;

// The class shows the members that the document names, and hides all others.
public final class FaceTest {
    private static final Set<String> METHODS = new TreeSet<>(Arrays.asList(
        "int add(int)", "int addAfter(int)", "int addUnder(int)", "int remove(int)",
        "int dissolve(int)", "int indent(int)", "int outdent(int)", "int up(int)", "int down(int)",
        "int moveUnder(int, int)", "int fold(int, int)", "int foldLevel(int)", "int reveal(int)",
        "int size()", "int name(int)", "int level(int)", "int place(int)", "int parent(int)",
        "int under(int)", "int rows()", "int row(int)", "int rowOf(int)"));
    private static final Set<String> CONSTANTS =
        new TreeSet<>(Arrays.asList("int BAD_ARG = -1", "int FULL = -2", "int NONE = -4"));

    private static int wrong = 0;

    private static void due(String what, Object got, Object want) {
        if (!got.equals(want)) {
            wrong++;
            System.out.println(what + ": got " + got + ", due is " + want);
        }
    }

    private static boolean isPrivate(Member member) {
        return Modifier.isPrivate(member.getModifiers());
    }

    private static String signature(Method method) {
        StringBuilder text = new StringBuilder();
        for (Class<?> type : method.getParameterTypes()) {
            text.append(text.length() == 0 ? "" : ", ").append(type.getName());
        }
        return method.getReturnType().getName() + " " + method.getName() + "(" + text + ")";
    }

    private static void checkMethods() {
        Set<String> shown = new TreeSet<>();
        Set<String> shownNames = new HashSet<>();
        for (Method method : OutlineEditor.class.getDeclaredMethods()) {
            if (!isPrivate(method)) {
                due(signature(method) + " modifiers", method.getModifiers(), Modifier.PUBLIC);
                shown.add(signature(method));
                shownNames.add(method.getName());
            }
        }
        due("methods", shown, METHODS);
        for (Method method : OutlineEditor.class.getDeclaredMethods()) {
            if (isPrivate(method)) {
                boolean twice = shownNames.contains(method.getName());
                due("private " + signature(method) + " bears a public name", twice, false);
            }
        }
    }

    private static void checkFields() throws IllegalAccessException {
        Set<String> shown = new TreeSet<>();
        int constant = Modifier.PUBLIC | Modifier.STATIC | Modifier.FINAL;
        for (Field field : OutlineEditor.class.getDeclaredFields()) {
            if (!isPrivate(field)) {
                due(field.getName() + " modifiers", field.getModifiers(), constant);
                String type = field.getType().getName();
                shown.add(type + " " + field.getName() + " = " + field.get(null));
            }
        }
        due("constants", shown, CONSTANTS);
    }

    public static void main(String[] args) throws IllegalAccessException {
        due("class", OutlineEditor.class.getModifiers(), Modifier.PUBLIC | Modifier.FINAL);
        due("constructors", OutlineEditor.class.getDeclaredConstructors().length, 1);
        due("public constructors", OutlineEditor.class.getConstructors().length, 1);
        due("parameters", OutlineEditor.class.getDeclaredConstructors()[0].getParameterCount(), 0);
        due("nested classes", OutlineEditor.class.getDeclaredClasses().length, 0);
        checkMethods();
        checkFields();
        if (wrong != 0) {
            System.exit(1);
        }
    }
}
