import java.io.IOException;
import java.lang.reflect.Method;
import java.lang.reflect.Modifier;
import java.nio.file.Files;
import java.nio.file.Path;
import java.util.regex.Matcher;
import java.util.regex.Pattern;

/** The calls that README.md shows answer what stands behind them, and it names each call of the face. */
final class ReadmeTest {
    private static final Path README = Path.of("README.md");
    private static final Pattern CALL = Pattern.compile("(?m)^scene\\.(\\w+)\\(([^)]*)\\); *// (-?\\d+)$");

    private ReadmeTest() {
    }

    public static void main(String[] args) throws IOException, ReflectiveOperationException {
        Due due = new Due("ReadmeTest");
        String text = Files.readString(README);
        EchoTurns scene = new EchoTurns();
        int calls = 0;
        Matcher matcher = CALL.matcher(text);
        while (matcher.find()) {
            calls++;
            due.same(matcher.group(), answer(scene, matcher.group(1), matcher.group(2)), Integer.parseInt(matcher.group(3)));
        }
        due.same("lines with a call that could be read", calls, text.lines().filter(line -> line.startsWith("scene.")).count());
        due.same("there is a call", calls > 0 ? 1 : 0, 1);
        for (Method method : EchoTurns.class.getDeclaredMethods()) {
            if (!Modifier.isPrivate(method.getModifiers())) {
                due.same("README.md names " + method.getName(), text.contains("`" + method.getName() + "`") ? 1 : 0, 1);
            }
        }
        due.end();
    }

    private static int answer(EchoTurns scene, String name, String arguments) throws ReflectiveOperationException {
        String[] words = arguments.isBlank() ? new String[0] : arguments.split(", *");
        Class<?>[] types = new Class<?>[words.length];
        Object[] values = new Object[words.length];
        for (int i = 0; i < words.length; i++) {
            boolean wall = words[i].equals("true") || words[i].equals("false");
            types[i] = wall ? boolean.class : int.class;
            values[i] = wall ? (Object) Boolean.valueOf(words[i]) : (Object) Integer.valueOf(words[i]);
        }
        return (Integer) EchoTurns.class.getMethod(name, types).invoke(scene, values);
    }
}
