import java.lang.reflect.InvocationTargetException;
import java.lang.reflect.Method;
import java.nio.file.Files;
import java.nio.file.Path;
import java.util.regex.Matcher;
import java.util.regex.Pattern;

/** The examples of the document and those of README.md, read from their pages and made call by call. */
final class ExamplesTest {
    private static final String CALL = "(\\w+)\\(([^()]*)\\)";
    private static final Pattern IN_DOCUMENT =
            Pattern.compile(CALL + "(?: with (\\S+))?: (-?[0-9]+|throws \\w+)(?:; |$)");
    private static final Pattern IN_README = Pattern.compile("broker\\." + CALL + "; +// (-?[0-9]+|throws \\w+)(?::.*)?");

    public static void main(String[] args) throws Exception {
        document(Files.readString(Path.of("../shared/DOC.md")));
        readme(Files.readString(Path.of("README.md")));
        Check.end();
    }

    private static void document(String page) throws Exception {
        String part = page.substring(page.indexOf("Examples: each one"), page.indexOf("The constructor and the methods"));
        int examples = 0;
        for (String paragraph : part.split("\n\n")) {
            if (paragraph.startsWith("- ")) {
                examples++;
                example(paragraph.substring(2).replaceAll("\\s+", " ").strip());
            }
        }
        Check.due("examples of the document", examples, 5);
    }

    private static void example(String text) throws Exception {
        GradedTopicBroker broker = new GradedTopicBroker();
        Matcher call = IN_DOCUMENT.matcher(text);
        int end = 0;
        while (call.find()) {
            Check.due("nothing is passed over in: " + text, call.start(), end);
            end = call.end();
            Check.same(call.group(), make(broker, call.group(1), call.group(2)), call.group(4));
            if (call.group(3) != null) {
                Check.due("signs of " + call.group(), Check.packed(call.group(3))[0], Integer.parseInt(call.group(2)));
            }
        }
        Check.due("read to the end: " + text, end, text.length());
    }

    private static void readme(String page) throws Exception {
        Matcher block = Pattern.compile("(?s)```java\n(.*?)```").matcher(page);
        int examples = 0;
        while (block.find()) {
            examples++;
            String[] lines = block.group(1).split("\n");
            Check.same("the first line", lines[0], "GradedTopicBroker broker = new GradedTopicBroker();");
            GradedTopicBroker broker = new GradedTopicBroker();
            for (int i = 1; i < lines.length; i++) {
                Matcher call = IN_README.matcher(lines[i]);
                if (call.matches()) {
                    Check.same(lines[i], make(broker, call.group(1), call.group(2)), call.group(3));
                } else {
                    Check.due("a call with its answer: " + lines[i], 0, 1);
                }
            }
        }
        Check.due("README.md has examples", examples > 0 ? 1 : 0, 1);
    }

    /** The answer of a call that is written out, or "throws" and what it throws. */
    private static String make(GradedTopicBroker broker, String name, String written) throws Exception {
        String[] words = written.isEmpty() ? new String[0] : written.split(", ");
        for (Method method : GradedTopicBroker.class.getMethods()) {
            if (method.getName().equals(name) && method.getParameterCount() == words.length) {
                Object[] values = new Object[words.length];
                for (int i = 0; i < words.length; i++) {
                    boolean truth = method.getParameterTypes()[i] == boolean.class;
                    values[i] = truth ? (Object) Boolean.valueOf(words[i]) : (Object) Integer.valueOf(words[i]);
                }
                try {
                    return String.valueOf(method.invoke(broker, values));
                } catch (InvocationTargetException e) {
                    return "throws " + e.getCause().getClass().getSimpleName();
                }
            }
        }
        return "no such method";
    }
}
