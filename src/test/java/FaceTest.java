import java.lang.reflect.Constructor;
import java.lang.reflect.Method;
import java.lang.reflect.Modifier;
import java.nio.file.Files;
import java.nio.file.Path;
import java.util.TreeSet;

/** The public face, as the document writes it: signatures, and exceptions in their order; and nothing beside it. */
final class FaceTest {
    public static void main(String[] args) throws Exception {
        String page = Files.readString(Path.of("../shared/DOC.md"));
        int start = page.indexOf("```java") + "```java".length();
        String[] lines = page.substring(start, page.indexOf("```", start)).split("\n");
        TreeSet<String> due = new TreeSet<>();
        for (String line : lines) {
            if (line.startsWith("    public ")) {
                due.add(withoutNames(line.strip()));
            }
        }
        TreeSet<String> got = new TreeSet<>();
        for (Constructor<?> made : GradedTopicBroker.class.getDeclaredConstructors()) {
            got.add(signature(made.getModifiers(), "GradedTopicBroker", made.getParameterTypes(),
                    made.getExceptionTypes()));
        }
        for (Method method : GradedTopicBroker.class.getDeclaredMethods()) {
            if (Modifier.isPublic(method.getModifiers())) {
                got.add(signature(method.getModifiers(), method.getReturnType().getSimpleName() + " "
                        + method.getName(), method.getParameterTypes(), method.getExceptionTypes()));
            }
        }
        Check.due("a constructor and 33 methods", due.size(), 34);
        for (String one : due) {
            Check.due("the face has " + one, got.contains(one) ? 1 : 0, 1);
        }
        for (String one : got) {
            Check.due("the document has " + one, due.contains(one) ? 1 : 0, 1);
        }
        Check.same("the class", Modifier.toString(GradedTopicBroker.class.getModifiers()), "public final");
        Check.due("public fields", GradedTopicBroker.class.getFields().length, 0);
        Check.end();
    }

    private static String withoutNames(String line) {
        return line.replaceAll("(int|boolean) \\w+([,)])", "$1$2");
    }

    private static String signature(int modifiers, String name, Class<?>[] parameters, Class<?>[] exceptions) {
        StringBuilder text = new StringBuilder(Modifier.toString(modifiers)).append(' ').append(name).append('(');
        list(text, parameters).append(')');
        if (exceptions.length > 0) {
            list(text.append(" throws "), exceptions);
        }
        return text.append(';').toString();
    }

    private static StringBuilder list(StringBuilder text, Class<?>[] types) {
        for (int i = 0; i < types.length; i++) {
            text.append(i == 0 ? "" : ", ").append(types[i].getSimpleName());
        }
        return text;
    }
}
