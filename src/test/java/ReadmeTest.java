import java.io.File;
import java.io.IOException;
import java.lang.reflect.Field;
import java.lang.reflect.Method;
import java.lang.reflect.Modifier;
import java.nio.file.Files;
import java.nio.file.Path;
import java.util.ArrayList;
import java.util.HashMap;
import java.util.List;
import java.util.Map;
import java.util.regex.Matcher;
import java.util.regex.Pattern;

/** README.md: each call of its examples answers what stands behind it, and nothing of the class or the tests is left out. */
public final class ReadmeTest {
    private static final String BEGINNING = "ForkedStamps x = new ForkedStamps();";
    private static final Pattern CALL =
        Pattern.compile("(?:int (\\w+) = )?x\\.(\\w+)\\(([^)]*)\\); +// ('.'|[\\w.-]+)[:;].*");

    public static void main(String[] args) throws Exception {
        String readme = Files.readString(Path.of("README.md"));
        int examples = 0;
        for (List<String> block : blocks(readme)) {
            if (block.get(0).startsWith(BEGINNING)) {
                examples++;
                follow(block);
            }
        }
        Check.due("examples", examples, 3);
        characters();
        namesFace(readme);
        namesTests(readme);
        Check.end();
    }

    private static List<List<String>> blocks(String readme) {
        List<List<String>> blocks = new ArrayList<>();
        Matcher matcher = Pattern.compile("(?s)```java\n(.*?)```").matcher(readme);
        while (matcher.find()) {
            blocks.add(matcher.group(1).lines().toList());
        }
        return blocks;
    }

    private static void follow(List<String> block) throws ReflectiveOperationException {
        ForkedStamps x = new ForkedStamps();
        Map<String, Integer> names = new HashMap<>();
        for (String line : block.subList(1, block.size())) {
            Matcher matcher = CALL.matcher(line);
            boolean understood = matcher.matches();
            Check.same("understood: " + line, understood, true);
            if (understood) {
                int answer = call(x, matcher.group(2), matcher.group(3), names);
                Check.due(line, answer, meant(matcher.group(4)));
                if (matcher.group(1) != null) {
                    names.put(matcher.group(1), answer);
                }
            }
        }
    }

    private static int call(ForkedStamps x, String name, String arguments, Map<String, Integer> names)
        throws ReflectiveOperationException {
        String[] written = arguments.isEmpty() ? new String[0] : arguments.split(", ");
        for (Method method : ForkedStamps.class.getDeclaredMethods()) {
            if (method.getName().equals(name) && Modifier.isPublic(method.getModifiers())) {
                Check.due("arguments of " + name, written.length, method.getParameterCount());
                Object[] values = new Object[written.length];
                for (int i = 0; i < written.length; i++) {
                    long value = names.containsKey(written[i]) ? names.get(written[i]) : Long.decode(written[i].replace("L", ""));
                    boolean isLong = method.getParameterTypes()[i] == long.class;
                    values[i] = isLong ? (Object) value : (Object) (int) value;
                }
                return (Integer) method.invoke(x, values);
            }
        }
        throw new NoSuchMethodException(name);
    }

    /** A number, a character in quotes, or a constant of the class. */
    private static int meant(String answer) throws ReflectiveOperationException {
        if (answer.startsWith("'")) {
            return answer.charAt(1);
        }
        if (answer.startsWith("ForkedStamps.")) {
            return ForkedStamps.class.getField(answer.substring("ForkedStamps.".length())).getInt(null);
        }
        return Integer.parseInt(answer);
    }

    // The numbers that the examples put are what the function on the page makes of the texts beside them.
    private static void characters() {
        Check.due("(1,(", Check.code("(1,("), 0x28312C28L);
        Check.due("2,0))", Check.code("2,0))"), 0x322C302929L);
    }

    private static void namesFace(String readme) {
        for (Method method : ForkedStamps.class.getDeclaredMethods()) {
            if (Modifier.isPublic(method.getModifiers())) {
                boolean named = Pattern.compile("\\| `" + method.getName() + "\\([^)]*\\)` \\|").matcher(readme).find();
                Check.same("README.md names " + method.getName(), named, true);
            }
        }
        for (Field field : ForkedStamps.class.getFields()) {
            Check.same("README.md names " + field.getName(), readme.contains("`" + field.getName() + "`"), true);
        }
    }

    private static void namesTests(String readme) throws IOException {
        String[] files = new File("src/test/java").list();
        Check.same("there are tests", files != null && files.length > 0, true);
        for (String file : files) {
            String name = file.replace(".java", "");
            String row = name.endsWith("Test") ? "| `" + name + "` |" : "`" + name + "`";
            Check.same("README.md names " + name, readme.contains(row), true);
        }
    }
}
