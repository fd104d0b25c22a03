import java.lang.reflect.InvocationTargetException;
import java.lang.reflect.Method;
import java.lang.reflect.Modifier;
import java.nio.file.Files;
import java.nio.file.Path;
import java.util.Set;
import java.util.TreeSet;
import java.util.regex.Matcher;
import java.util.regex.Pattern;

/** The calls that README.md shows are made as they stand there, and answer what stands behind them. */
public final class ReadmeTest {
    private static final Pattern CALL = Pattern.compile("x\\.(\\w+)\\(([^)]*)\\); +// (-?\\d+|true|false)\\b.*");
    private static final Pattern TELL = Pattern.compile("tell\\(x, \"([^\"]*)\"\\);");
    private static final Due due = new Due();

    public static void main(String[] args) throws Exception {
        MoveInn x = new MoveInn();
        Set<String> called = new TreeSet<>();
        String[] shown = Files.readString(Path.of("README.md")).split("MoveInn x = new MoveInn\\(\\);\n|\n```\n\n## Tests");
        due.is("parts of README.md", shown.length, 3);
        for (String line : shown.length == 3 ? shown[1].split("\n") : new String[0]) {
            Matcher call = CALL.matcher(line);
            Matcher tell = TELL.matcher(line);
            if (call.matches()) {
                called.add(call.group(1));
                due.is(line, answer(x, call.group(1), call.group(2)), numberOf(call.group(3)));
            } else if (tell.matches()) {
                Due.feed(x, tell.group(1));
            } else {
                due.is("a line that says something else: " + line, line.isEmpty() || line.startsWith("// "), true);
            }
        }
        due.is("calls of the face that are shown: " + called, called.equals(namesOfFace()), true);
        due.end();
    }

    private static Set<String> namesOfFace() {
        Set<String> names = new TreeSet<>();
        for (Method method : MoveInn.class.getDeclaredMethods()) {
            if (Modifier.isPublic(method.getModifiers())) {
                names.add(method.getName());
            }
        }
        return names;
    }

    private static long answer(MoveInn x, String name, String written) throws IllegalAccessException {
        String[] texts = written.isEmpty() ? new String[0] : written.split(", ");
        for (Method method : MoveInn.class.getDeclaredMethods()) {
            if (Modifier.isPublic(method.getModifiers()) && method.getName().equals(name)) {
                Class<?>[] types = method.getParameterTypes();
                Object[] arguments = new Object[texts.length];
                for (int i = 0; i < texts.length; i++) {
                    arguments[i] = types[i] == boolean.class ? (Object) Boolean.valueOf(texts[i])
                            : types[i] == int.class ? (Object) Integer.valueOf(texts[i])
                            : (Object) Long.decode(texts[i].replace("L", ""));
                }
                try {
                    return numberOf(method.invoke(x, arguments).toString());
                } catch (InvocationTargetException e) {
                    return Due.THROWS;
                }
            }
        }
        return Due.THROWS;
    }

    private static long numberOf(String answer) {
        return answer.equals("true") ? 1 : answer.equals("false") ? 0 : Long.parseLong(answer);
    }
}
