import java.io.IOException;
import java.lang.reflect.Field;
import java.lang.reflect.Method;
import java.lang.reflect.Modifier;
import java.nio.file.Files;
import java.nio.file.Path;
import java.util.List;
import java.util.Set;
import java.util.TreeSet;
import java.util.regex.Pattern;

/** The public face, and the rules of LANGUAGE.md that can be seen from outside or from single words of the source. */
public final class FaceTest {
    private static final Set<String> FACE = Set.of(
        "boolean token(int, int)", "int wipe()", "int compile()", "int place()", "boolean type(int)", "int cut(int)",
        "boolean find(int)", "boolean whole()", "int group(int, boolean)", "int count()", "int starts()");
    private static final Set<String> CONSTANTS = Set.of("OK", "SYNTAX", "LARGE");
    private static final Set<String> TYPES = Set.of("int", "long", "short", "byte", "char", "boolean",
        "int[]", "long[]", "short[]", "byte[]", "char[]", "boolean[]", "void");
    private static final List<String> FORBIDDEN = List.of("import", "package", "throw", "try", "catch", "synchronized", "assert",
        "instanceof", "null", "String", "Math", "Integer", "System", "Arrays", "float", "double", "Object", "this");

    public static void main(String[] args) throws IOException {
        Class<?> type = LazyTaggedMatcher.class;
        Check.due("public and final", type.getModifiers(), Modifier.PUBLIC | Modifier.FINAL);
        Check.due("constructors", type.getDeclaredConstructors().length, 1);
        Check.due("public constructors without parameters", type.getConstructors()[0].getParameterCount(), 0);
        Check.due("nested classes", type.getDeclaredClasses().length, 0);
        methods(type);
        fields(type);
        source();
        Check.finish();
    }

    private static String signature(Method method) {
        StringBuilder parameters = new StringBuilder();
        for (Class<?> parameter : method.getParameterTypes()) {
            parameters.append(parameters.length() == 0 ? "" : ", ").append(parameter.getSimpleName());
        }
        return method.getReturnType().getSimpleName() + " " + method.getName() + "(" + parameters + ")";
    }

    private static void methods(Class<?> type) {
        Set<String> open = new TreeSet<>();
        Set<String> openNames = new TreeSet<>();
        for (Method method : type.getDeclaredMethods()) {
            if (!Modifier.isPrivate(method.getModifiers())) {
                open.add(signature(method));
                openNames.add(method.getName());
                Check.due(method + " is public and no more", method.getModifiers(), Modifier.PUBLIC);
            }
        }
        Check.due("the public methods " + open, open.equals(FACE), true);
        for (Method method : type.getDeclaredMethods()) {
            if (Modifier.isPrivate(method.getModifiers())) {
                Check.due(method + " bears a public name", openNames.contains(method.getName()), false);
            }
            Check.due(method + " takes at most seven", method.getParameterCount() <= 7, true);
            Check.due(method + " answers an array", method.getReturnType().isArray(), false);
        }
    }

    private static void fields(Class<?> type) {
        int ownFields = 0;
        Set<String> open = new TreeSet<>();
        for (Field field : type.getDeclaredFields()) {
            int modifiers = field.getModifiers();
            boolean constant = Modifier.isStatic(modifiers) && Modifier.isFinal(modifiers);
            String kind = field.getType().getSimpleName();
            Check.due(field + " has a type that is allowed", TYPES.contains(kind), true);
            Check.due(field + " is a constant if static", Modifier.isStatic(modifiers), constant && Set.of("int", "long").contains(kind));
            if (!Modifier.isPrivate(modifiers)) {
                open.add(field.getName());
                Check.due(field + " is a public constant", Modifier.isPublic(modifiers) && constant && kind.equals("int"), true);
            }
            ownFields += constant ? 0 : 1;
        }
        Check.due("the constants " + open, open.equals(CONSTANTS), true);
        Check.due(ownFields + " fields are not above 40", ownFields <= 40, true);
    }

    private static void source() throws IOException {
        int line = 0;
        for (String written : Files.readAllLines(Path.of("src/main/java/LazyTaggedMatcher.java"))) {
            line++;
            String code = written.replaceAll("//.*", "");
            for (String word : FORBIDDEN) {
                Check.due("line " + line + ": " + word, Pattern.compile("\\b" + word + "\\b").matcher(code).find(), false);
            }
            boolean makesArray = code.contains("new ");
            Check.due("line " + line + ": new outside a field", makesArray, makesArray && code.startsWith("    private final "));
            Check.due("line " + line + ": lambda or reference", code.contains("->") || code.contains("::"), false);
        }
    }
}
