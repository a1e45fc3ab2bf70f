import java.lang.reflect.Constructor;
import java.lang.reflect.Field;
import java.lang.reflect.Method;
import java.lang.reflect.Modifier;
import java.util.Arrays;
import java.util.TreeSet;

/** The public face: just what the document writes, and nothing else that is not private. */
public final class FaceTest {
    private static final String[] FACE = {
        "boolean type(long, int)", "int define()", "int run(int, int, int, int)", "int result(int)", "void begin()",
        "boolean spend(int, int)", "boolean give(int, int, int, int, int)", "boolean mint(int, int, int)",
        "boolean terms(int, int, int, int, int)", "boolean guarantee(int)", "int submit()", "int block()",
        "int rollback(int)", "int outputs()", "int about(int, int)", "int total(int)", "int pot()", "int height()"};

    public static void main(String[] args) {
        Due due = new Due();
        int modifiers = ScriptLedger.class.getModifiers();
        due.yes("public and final", Modifier.isPublic(modifiers) && Modifier.isFinal(modifiers));
        TreeSet<String> seen = new TreeSet<>();
        TreeSet<String> publicNames = new TreeSet<>();
        for (Method method : ScriptLedger.class.getDeclaredMethods()) {
            if (!Modifier.isPrivate(method.getModifiers())) {
                due.yes(method + " is public", Modifier.isPublic(method.getModifiers()));
                due.no(method + " is static", Modifier.isStatic(method.getModifiers()));
                seen.add(written(method));
                publicNames.add(method.getName());
            }
        }
        due.yes("the methods are those of the document: " + seen, seen.equals(new TreeSet<>(Arrays.asList(FACE))));
        Constructor<?>[] constructors = ScriptLedger.class.getDeclaredConstructors();
        due.same("constructors", constructors.length, 1);
        due.yes("public ScriptLedger(int)", constructors[0].toString().equals("public ScriptLedger(int)"));
        for (Field field : ScriptLedger.class.getDeclaredFields()) {
            due.yes(field + " is private and final",
                Modifier.isPrivate(field.getModifiers()) && Modifier.isFinal(field.getModifiers()));
        }
        privateNames(due, publicNames);
        due.end();
    }

    private static void privateNames(Due due, TreeSet<String> publicNames) {
        for (Method method : ScriptLedger.class.getDeclaredMethods()) {
            if (Modifier.isPrivate(method.getModifiers())) {
                due.no(method + " bears a public name", publicNames.contains(method.getName()));
            }
        }
        for (Class<?> inside : ScriptLedger.class.getDeclaredClasses()) {
            due.yes(inside + " is static", Modifier.isStatic(inside.getModifiers()));
            due.no(inside + " is public", Modifier.isPublic(inside.getModifiers()));
            for (Method method : inside.getDeclaredMethods()) {
                due.no(method + " bears a public name", publicNames.contains(method.getName()));
            }
        }
    }

    private static String written(Method method) {
        StringBuilder text = new StringBuilder();
        text.append(method.getReturnType()).append(' ').append(method.getName()).append('(');
        for (Class<?> parameter : method.getParameterTypes()) {
            text.append(text.charAt(text.length() - 1) == '(' ? "" : ", ").append(parameter);
        }
        return text.append(')').toString();
    }
}
