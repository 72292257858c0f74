import java.lang.reflect.Field;
import java.lang.reflect.Method;
import java.lang.reflect.Modifier;
import java.nio.file.Files;
import java.nio.file.Path;
import java.util.Set;
import java.util.TreeSet;
import java.util.regex.Matcher;
import java.util.regex.Pattern;

/** What of LANGUAGE.md can be seen from the source's words and from the compiled face. */
final class LanguageTest {
    private static final String[] FORBIDDEN = {
        "->", "::", "\\bimport\\b", "\\bpackage\\b", "\\bsynchronized\\b", "\\bassert\\b", "\\bfinally\\b",
        "\\bcatch\\b", "\\btry\\b", "\\bstatic \\{", "Exact\\b", "\\bSystem\\.(out|in|err|nano|current)",
        "\\bRandom\\b", "\\bThread\\b", "\\bObject\\b", "\\bMap\\b", "\\bSet\\b", "\\bString\\.format", "NaN",
        "\\bhashCode\\b", "\\bequals\\b", "\\btoString\\b", "\\bdouble\\b", "\\bnull\\b"
    };

    public static void main(String[] args) throws Exception {
        String source = Files.readString(Path.of("src/main/java/GradedTopicBroker.java"));
        String code = source.replaceAll("(?s)/\\*.*?\\*/", "").replaceAll("//[^\n]*", "");
        for (String word : FORBIDDEN) {
            Matcher found = Pattern.compile(word).matcher(code);
            Check.due("the word " + word, found.find() ? 1 : 0, 0);
        }
        exceptions(code);
        face();
        sizes(code);
        Check.end();
    }

    private static void exceptions(String code) {
        Matcher thrown = Pattern.compile("\\bthrow\\b[^;]*;").matcher(code);
        int count = 0;
        while (thrown.find()) {
            count++;
            boolean good = thrown.group().matches(
                    "throw new (IllegalState|IllegalArgument|IndexOutOfBounds)Exception\\(\\);");
            Check.due("throws as rule 6 says: " + thrown.group(), good ? 1 : 0, 1);
        }
        Check.due("something is thrown", count > 0 ? 1 : 0, 1);
    }

    private static void face() {
        Class<?> face = GradedTopicBroker.class;
        Check.due("final", Modifier.isFinal(face.getModifiers()) ? 1 : 0, 1);
        Set<String> open = new TreeSet<>();
        Set<String> hidden = new TreeSet<>();
        for (Method method : face.getDeclaredMethods()) {
            boolean isPublic = Modifier.isPublic(method.getModifiers());
            boolean isPrivate = Modifier.isPrivate(method.getModifiers());
            Check.due("public or private: " + method, isPublic || isPrivate ? 1 : 0, 1);
            (isPublic ? open : hidden).add(method.getName());
        }
        Check.due("33 methods", open.size(), 33);
        int fields = 0;
        for (Field field : face.getDeclaredFields()) {
            Check.due("private: " + field, Modifier.isPrivate(field.getModifiers()) ? 1 : 0, 1);
            fields += Modifier.isStatic(field.getModifiers()) ? 0 : 1;
        }
        Check.due("fields", fields <= 20 ? 1 : 0, 1);
        Class<?>[] inside = face.getDeclaredClasses();
        Check.due("classes", inside.length <= 11 ? 1 : 0, 1);
        for (Class<?> one : inside) {
            Check.due("static: " + one, Modifier.isStatic(one.getModifiers()) ? 1 : 0, 1);
            Check.due("not public: " + one, Modifier.isPublic(one.getModifiers()) ? 1 : 0, 0);
            Check.due("few fields: " + one, one.getDeclaredFields().length <= 20 ? 1 : 0, 1);
            for (Method method : one.getDeclaredMethods()) {
                hidden.add(method.getName());
                Check.due("few parameters: " + method, method.getParameterCount() <= 7 ? 1 : 0, 1);
            }
        }
        hidden.retainAll(open);
        Check.due("names of the face inside " + hidden, hidden.size(), 0);
    }

    /** Methods are told by their indent: four columns in the class, eight in the classes inside. */
    private static void sizes(String code) {
        int start = -1;
        String[] lines = code.split("\n", -1);
        for (int i = 0; i < lines.length; i++) {
            if (lines[i].matches("( {4}| {8})\\S.*\\(.*\\{") || lines[i].matches(" {12}throws .*\\{")) {
                start = i;
            }
            if (lines[i].matches("( {4}| {8})\\}") && start >= 0) {
                Check.due("length of the method at line " + (start + 1), i - start <= 60 ? 1 : 0, 1);
                start = -1;
            }
        }
    }
}
