import java.io.IOException;
import java.lang.reflect.Method;
import java.lang.reflect.Modifier;
import java.nio.file.Files;
import java.nio.file.Path;
import java.util.HashSet;
import java.util.Set;
import java.util.regex.Matcher;
import java.util.regex.Pattern;

/** README's example answers what README says that it does, and README names each call of the face. */
public final class ReadmeTest {
    private static final Pattern TEXT = Pattern.compile("feed\\(sky, \"([^\"]*)\"\\);");
    private static final Pattern CALL = Pattern.compile("sky\\.(\\w+)\\((.*)\\); *// (-?\\d+|true|false):.*");
    private static final int LEAST_CALLS = 30;
    private static final Due DUE = new Due();

    public static void main(String[] args) throws IOException, ReflectiveOperationException {
        String readme = Files.readString(Path.of("README.md"));
        LaundrySky sky = new LaundrySky();
        int calls = 0;
        for (String line : readme.split("\n")) {
            Matcher text = TEXT.matcher(line);
            Matcher call = CALL.matcher(line);
            if (text.matches()) {
                Due.type(sky, text.group(1));
            } else if (call.matches()) {
                calls++;
                Object got = method(call.group(1)).invoke(sky, arguments(call.group(2)));
                DUE.due(line + " (" + got + ")", got.toString().equals(call.group(3)), true);
            } else {
                DUE.due("a call whose answer is not read: " + line, line.startsWith("sky."), false);
            }
        }
        DUE.due("README has an example", calls >= LEAST_CALLS, true);
        names(readme);
        DUE.end("ReadmeTest");
    }

    private static Method method(String name) {
        for (Method method : LaundrySky.class.getMethods()) {
            if (method.getName().equals(name)) {
                return method;
            }
        }
        throw new IllegalArgumentException("README calls " + name + ", which is no call of the face");
    }

    private static Object[] arguments(String text) {
        if (text.isEmpty()) {
            return new Object[0];
        }
        String[] parts = text.split(", ");
        Object[] arguments = new Object[parts.length];
        for (int i = 0; i < parts.length; i++) {
            boolean isTruth = parts[i].equals("true") || parts[i].equals("false");
            arguments[i] = isTruth ? (Object) Boolean.valueOf(parts[i]) : (Object) Integer.valueOf(parts[i]);
        }
        return arguments;
    }

    private static void names(String readme) {
        Set<String> names = new HashSet<>();
        for (Method method : LaundrySky.class.getDeclaredMethods()) {
            if (Modifier.isPublic(method.getModifiers())) {
                names.add(method.getName());
            }
        }
        for (String name : names) {
            DUE.due("README names " + name, readme.contains("`" + name + "`"), true);
        }
    }
}
