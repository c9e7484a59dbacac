import java.io.IOException;
import java.lang.reflect.Constructor;
import java.lang.reflect.Field;
import java.lang.reflect.Method;
import java.lang.reflect.Modifier;
import java.nio.file.Files;
import java.nio.file.Path;
import java.util.ArrayList;
import java.util.List;
import java.util.Set;
import java.util.TreeSet;
import java.util.regex.Matcher;
import java.util.regex.Pattern;

/** The face of the document, and the rules of LANGUAGE.md that a look at the class can tell. */
public final class LanguageTest {
    private static final String[] FACE = {
        "fork int", "gather int int", "event int", "send int", "receive int int", "drop int", "of int int", "ofMessage int int",
        "height int int int", "knows int int int", "count int", "whose int", "order int int int int", "more int int int int",
        "orderToPad int", "printed int int", "ifReceive int int int", "laggard int", "put long", "wipe", "fault", "undo", "save int",
        "restore int"};
    private static final String[] FORBIDDEN = {"\\bthrow\\b", "\\bthrows\\b", "\\btry\\b", "\\bcatch\\b", "\\bfinally\\b", "\\bsynchronized\\b",
        "\\bassert\\b", "\\bimport\\b", "\\bpackage\\b", "\\bprotected\\b", "->", "::", "\\bequals\\b", "\\bhashCode\\b", "\\btoString\\b",
        "\\bstatic\\s*\\{", "\\bObject\\b", "\\bSystem\\.(?!arraycopy\\b)", "\\bThread\\b", "\\bRandom\\b", "Exact\\b", "\\bvar\\b",
        "\\bnative\\b", "\\bjava\\.", "[^\\x00-\\x7F]"};
    private static final int LONGEST_METHOD = 60;

    public static void main(String[] args) throws IOException {
        face();
        constants();
        for (Class<?> inside : ForkedStamps.class.getDeclaredClasses()) {
            Check.same(inside + " is static", Modifier.isStatic(inside.getModifiers()), true);
            Check.same(inside + " is not public", Modifier.isPublic(inside.getModifiers()), false);
            Check.same(inside + " has none inside", inside.getDeclaredClasses().length, 0);
            members(inside);
        }
        members(ForkedStamps.class);
        String source = Files.readString(Path.of(System.getProperty("source", "src/main/java/ForkedStamps.java")));
        words(source);
        lengthOfMethods(source);
        Check.end();
    }

    private static String signature(Method method) {
        StringBuilder signature = new StringBuilder(method.getName());
        for (Class<?> type : method.getParameterTypes()) {
            signature.append(' ').append(type.getName());
        }
        return signature.toString();
    }

    private static void face() {
        int modifiers = ForkedStamps.class.getModifiers();
        Check.same("public and final", Modifier.isPublic(modifiers) && Modifier.isFinal(modifiers), true);
        Set<String> found = new TreeSet<>();
        Set<String> names = new TreeSet<>();
        for (Method method : ForkedStamps.class.getDeclaredMethods()) {
            if (!Modifier.isPrivate(method.getModifiers())) {
                found.add(signature(method));
                names.add(method.getName());
                Check.same(method + " answers an int", method.getReturnType(), int.class);
                Check.same(method + " is public", Modifier.isPublic(method.getModifiers()), true);
                Check.same(method + " is of an object", Modifier.isStatic(method.getModifiers()), false);
            }
        }
        Check.same("the methods", found, new TreeSet<>(List.of(FACE)));
        for (Method method : ForkedStamps.class.getDeclaredMethods()) {
            boolean isPrivate = Modifier.isPrivate(method.getModifiers());
            Check.same(method + " has a public one's name", isPrivate && names.contains(method.getName()), false);
        }
        Constructor<?>[] constructors = ForkedStamps.class.getDeclaredConstructors();
        Check.due("constructors", constructors.length, 1);
        Check.due("its parameters", constructors[0].getParameterCount(), 0);
        Check.same("it is public", Modifier.isPublic(constructors[0].getModifiers()), true);
    }

    private static void constants() {
        Set<String> found = new TreeSet<>();
        for (Field field : ForkedStamps.class.getDeclaredFields()) {
            if (!Modifier.isPrivate(field.getModifiers())) {
                found.add(field.getName());
                int modifiers = field.getModifiers();
                Check.same(field + " is a public constant",
                    Modifier.isPublic(modifiers) && Modifier.isStatic(modifiers) && Modifier.isFinal(modifiers), true);
                Check.same(field + " is an int", field.getType(), int.class);
            }
        }
        Check.same("the constants", found, new TreeSet<>(List.of("NO_SUCH", "BAD_VALUE", "BAD_TEXT", "TOO_MANY", "NOT_POSSIBLE", "NONE",
            "SAME", "BEFORE", "BEHIND", "CLASH")));
        int[] values = {ForkedStamps.NO_SUCH, ForkedStamps.BAD_VALUE, ForkedStamps.BAD_TEXT, ForkedStamps.TOO_MANY,
            ForkedStamps.NOT_POSSIBLE, ForkedStamps.NONE};
        for (int i = 0; i < values.length; i++) {
            Check.due("the error code " + i, values[i], -1 - i);
        }
        Check.due("SAME", ForkedStamps.SAME, 0);
        Check.due("BEFORE", ForkedStamps.BEFORE, 1);
        Check.due("BEHIND", ForkedStamps.BEHIND, 2);
        Check.due("CLASH", ForkedStamps.CLASH, 3);
    }

    private static void members(Class<?> type) {
        int fieldsOfObjects = 0;
        for (Field field : type.getDeclaredFields()) {
            if (Modifier.isStatic(field.getModifiers())) {
                Check.same(field + " is final", Modifier.isFinal(field.getModifiers()), true);
            } else {
                fieldsOfObjects++;
            }
        }
        Check.same(type + " has at most 20 fields", fieldsOfObjects <= 20, true);
        for (Method method : type.getDeclaredMethods()) {
            Check.same(method + " has at most 7 parameters", method.getParameterCount() <= 7, true);
        }
    }

    private static void words(String source) {
        String code = source.replaceAll("(?s)/\\*.*?\\*/", "").replaceAll("//[^\n]*", "");
        for (String forbidden : FORBIDDEN) {
            Matcher matcher = Pattern.compile(forbidden).matcher(code);
            Check.same("the source has " + forbidden, matcher.find() ? matcher.group() : "", "");
        }
    }

    /** A method ends at the brace that is as far from the left as its first line. */
    private static void lengthOfMethods(String source) {
        List<String> lines = new ArrayList<>(source.lines().toList());
        Pattern head = Pattern.compile("^( +)[a-zA-Z].*\\) \\{$");
        for (int from = 0; from < lines.size(); from++) {
            Matcher matcher = head.matcher(lines.get(from));
            if (matcher.find()) {
                int to = from;
                while (to < lines.size() && !lines.get(to).startsWith(matcher.group(1) + "}")) {
                    to++;
                }
                Check.same("it is short: " + lines.get(from).trim(), to - from < LONGEST_METHOD, true);
            }
        }
    }
}
