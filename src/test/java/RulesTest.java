import java.io.IOException;
import java.lang.reflect.Field;
import java.lang.reflect.Method;
import java.lang.reflect.Modifier;
import java.nio.file.Files;
import java.nio.file.Path;
import java.util.ArrayList;
import java.util.List;

/** What can be seen of LANGUAGE.md in the program: words that it rules out, and the numbers and lengths that it sets. */
final class RulesTest {
    private static final Path PROGRAM = Path.of("src/main/java/EchoTurns.java");
    private static final String[] RULED_OUT = {
        "->", "::", "synchronized", "assert", "finally", "try", "catch", "throw", "package", "import", "Exact(",
        "MAX_VALUE", "MIN_VALUE", "Object", "null", "equals(", "hashCode", "toString", "protected", "Math.random",
        "System.currentTimeMillis", "System.nanoTime", "System.out", "String.format", "static {", "volatile", "float", "@"
    };
    private static final int MOST_LINES = 60;
    private static final int MOST_CLASSES = 12;
    private static final int MOST_PARAMETERS = 7;
    private static final int MOST_FIELDS = 20;

    private RulesTest() {
    }

    public static void main(String[] args) throws IOException {
        Due due = new Due("RulesTest");
        String text = code(Files.readAllLines(PROGRAM));
        for (String word : RULED_OUT) {
            String pattern = Character.isLetter(word.charAt(0)) ? "(?s).*\\b\\Q" + word + "\\E(?![A-Za-z]).*" : "(?s).*\\Q" + word + "\\E.*";
            due.same("the program has '" + word + "'", text.matches(pattern) ? 1 : 0, 0);
        }
        due.same("at most some twelve classes", text.split("\\bclass\\b").length - 1 <= MOST_CLASSES ? 1 : 0, 1);
        due.same("all signs are 1 to 127", text.chars().allMatch(sign -> sign < 128) ? 1 : 0, 1);
        lookAtLengths(due, Files.readAllLines(PROGRAM));
        due.same("rows are made in constructors alone", madeInMethods(Files.readAllLines(PROGRAM)), 0);
        lookAtClass(due, EchoTurns.class);
        for (Class<?> inside : EchoTurns.class.getDeclaredClasses()) {
            int modifiers = inside.getModifiers();
            due.same(inside + " is static and not to be seen from elsewhere", Modifier.isStatic(modifiers)
                && !Modifier.isPublic(modifiers) && !Modifier.isProtected(modifiers) ? 1 : 0, 1);
            lookAtClass(due, inside);
        }
        due.end();
    }

    private static void lookAtClass(Due due, Class<?> one) {
        List<String> face = new ArrayList<>();
        for (Method method : EchoTurns.class.getMethods()) {
            face.add(method.getName());
        }
        for (Method method : one.getDeclaredMethods()) {
            due.same(method + " has not too many parameters", method.getParameterCount() <= MOST_PARAMETERS ? 1 : 0, 1);
            boolean hidden = Modifier.isPrivate(method.getModifiers());
            due.same(method + " is private with the name of a public one", hidden && face.contains(method.getName()) ? 1 : 0, 0);
        }
        int fields = 0;
        for (Field field : one.getDeclaredFields()) {
            fields += Modifier.isStatic(field.getModifiers()) ? 0 : 1;
            boolean changing = Modifier.isStatic(field.getModifiers()) && !Modifier.isFinal(field.getModifiers());
            due.same(field + " is static and not final", changing ? 1 : 0, 0);
        }
        due.same(one + " has not too many fields", fields <= MOST_FIELDS ? 1 : 0, 1);
    }

    /** The lines without comments. */
    private static String code(List<String> lines) {
        StringBuilder text = new StringBuilder();
        for (String line : lines) {
            String bare = line.strip();
            if (!bare.startsWith("/*") && !bare.startsWith("*")) {
                text.append(bare.replaceAll("//.*", "")).append('\n');
            }
        }
        return text.toString();
    }

    private static boolean beginsMethod(String line) {
        return line.matches(" {4}(?: {4})?\\S.*\\) \\{") && !line.strip().matches("(class|private static final class|for|if|while|switch|\\}) .*");
    }

    private static void lookAtLengths(Due due, List<String> lines) {
        for (int i = 0; i < lines.size(); i++) {
            if (beginsMethod(lines.get(i))) {
                String end = lines.get(i).replaceAll("\\S.*", "") + "}";
                int length = 0;
                while (i + length < lines.size() && !lines.get(i + length).equals(end)) {
                    length++;
                }
                due.same("a short method: " + lines.get(i).strip(), length <= MOST_LINES ? 1 : 0, 1);
            }
        }
    }

    private static int madeInMethods(List<String> lines) {
        int made = 0;
        boolean constructor = false;
        for (String line : lines) {
            if (beginsMethod(line)) {
                constructor = line.matches(" *(?:public )?[A-Z][A-Za-z]*\\(.*");
            }
            boolean field = line.matches(" +private final .*");
            made += line.matches(".*\\bnew\\b [A-Za-z].*") && !field && !constructor && !line.strip().startsWith("/") ? 1 : 0;
        }
        return made;
    }
}
