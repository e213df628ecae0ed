import java.io.IOException;
import java.lang.reflect.Method;
import java.lang.reflect.Modifier;
import java.nio.file.Files;
import java.nio.file.Path;
import java.util.List;
import java.util.regex.Matcher;
import java.util.regex.Pattern;

/** What README.md says of the use of the class: each line of its example answers as written behind it. */
public final class ReadmeTest {
    private static final Pattern CALL = Pattern.compile("matcher\\.(\\w+)\\(([^)]*)\\); *// (true|false|-?\\d+)\\b.*");
    private static final int KINDS = 16;

    public static void main(String[] args) throws IOException, ReflectiveOperationException {
        List<String> readme = Files.readAllLines(Path.of("README.md"));
        example(readme.subList(readme.indexOf("```java") + 1, readme.lastIndexOf("```")));
        tables(String.join("\n", readme));
        Check.finish();
    }

    private static void example(List<String> lines) throws ReflectiveOperationException {
        Check.due("the example makes an object first", lines.get(0).equals("LazyTaggedMatcher matcher = new LazyTaggedMatcher();"), true);
        LazyTaggedMatcher matcher = new LazyTaggedMatcher();
        for (String line : lines.subList(1, lines.size())) {
            Matcher call = CALL.matcher(line);
            boolean readable = call.matches();
            Check.due("a call with its answer: " + line, readable, true);
            if (readable) {
                String answer = String.valueOf(answerOf(matcher, call.group(1), call.group(2)));
                Check.due(line + " (answered " + answer + ")", answer.equals(call.group(3)), true);
            }
        }
    }

    private static Object answerOf(LazyTaggedMatcher matcher, String name, String arguments) throws ReflectiveOperationException {
        String[] written = arguments.isEmpty() ? new String[0] : arguments.split(", ");
        Method method = methodNamed(name);
        Object[] values = new Object[written.length];
        for (int i = 0; i < written.length; i++) {
            boolean truth = method.getParameterTypes()[i] == boolean.class;
            values[i] = truth ? (Object) Boolean.valueOf(written[i]) : (Object) Integer.valueOf(written[i]);
        }
        return method.invoke(matcher, values);
    }

    private static Method methodNamed(String name) throws NoSuchMethodException {
        for (Method method : LazyTaggedMatcher.class.getDeclaredMethods()) {
            if (method.getName().equals(name)) {
                return method;
            }
        }
        throw new NoSuchMethodException(name);
    }

    private static void tables(String readme) {
        for (Method method : LazyTaggedMatcher.class.getDeclaredMethods()) {
            if (Modifier.isPublic(method.getModifiers())) {
                Check.due("the table names " + method.getName(), readme.contains("\n| `" + method.getName() + "("), true);
            }
        }
        String kinds = readme.substring(readme.indexOf("\n| kind |"), readme.indexOf("\nThe bounds:"));
        for (int kind = 0; kind < KINDS; kind++) {
            Check.due("the table names kind " + kind, kinds.contains("| " + kind + " |"), true);
        }
    }
}
