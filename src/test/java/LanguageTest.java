import java.lang.reflect.Field;
import java.lang.reflect.Method;
import java.lang.reflect.Modifier;
import java.nio.file.Files;
import java.nio.file.Path;
import java.util.ArrayList;
import java.util.HashMap;
import java.util.List;
import java.util.Map;
import java.util.regex.Matcher;
import java.util.regex.Pattern;

/** Rules of ../shared/LANGUAGE.md that show in the text or in the members of the class. */
public final class LanguageTest {
    private static final Check CHECK = new Check("LanguageTest");
    private static final Path SOURCE = Path.of("src/main/java/CompostKeys.java");

    /** Words that no rule leaves, or that this class has no need of. */
    private static final String[] NO_WORDS = {
        "package", "import", "synchronized", "assert", "finally", "try", "catch", "instanceof",
        "volatile", "transient", "native", "strictfp", "protected", "var", "yield", "Object",
        "Float", "Double", "Thread", "Random", "equals", "hashCode", "toString", "getClass",
    };
    /** What of the library the class may call: rule 4. */
    private static final List<String> LIBRARY =
            List.of("System.arraycopy", "Math.max", "Math.min");

    public static void main(String[] args) throws Exception {
        String code = withoutComments(Files.readString(SOURCE));
        words(code);
        library(code);
        longMethods(code);
        List<Routine> routines = routines(code);
        thrownAndMade(routines);
        publicNames(routines);
        deepCalls(routines);
        members(CompostKeys.class);
        Class<?>[] inside = CompostKeys.class.getDeclaredClasses();
        CHECK.due("at most twelve classes: " + inside.length, inside.length < 12, true);
        for (Class<?> one : inside) {
            int bits = one.getModifiers();
            CHECK.due(one + " is static", Modifier.isStatic(bits), true);
            CHECK.due(one + " is hidden", Modifier.isPublic(bits) || Modifier.isProtected(bits),
                    false);
            members(one);
        }
        CHECK.end();
    }

    /** The text with comments and written texts blanked out; lines stay lines. */
    private static String withoutComments(String source) {
        String code = Pattern.compile("/\\*.*?\\*/", Pattern.DOTALL).matcher(source)
                .replaceAll(found -> found.group().replaceAll("[^\n]", " "));
        return code.replaceAll("//[^\n]*", "").replaceAll("\"[^\"\n]*\"", "\"\"");
    }

    private static void words(String code) {
        for (String word : NO_WORDS) {
            CHECK.due("'" + word + "' stands in the class",
                    Pattern.compile("\\b" + word + "\\b").matcher(code).find(), false);
        }
        for (String sign : new String[] {"->", "::", "@", "\"\" +", "+ \"\"", "%"}) {
            CHECK.due("'" + sign + "' stands in the class", code.contains(sign), false);
        }
        for (int i = 0; i < code.length(); i++) {
            if (code.charAt(i) > 126) {
                CHECK.due("the sign at " + i, (int) code.charAt(i), 0);
            }
        }
    }

    private static void library(String code) {
        Matcher matcher = Pattern.compile("\\b(System|Math|Integer|Long|Arrays|List)\\.\\w+")
                .matcher(code);
        while (matcher.find()) {
            CHECK.due(matcher.group() + " may stand", LIBRARY.contains(matcher.group()), true);
        }
    }

    /** Rule 11: a method begins and ends with lines of the same indent, 4 or 8. */
    private static void longMethods(String code) {
        String[] lines = code.split("\n");
        for (String indent : new String[] {"    ", "        "}) {
            int start = 0;
            for (int i = 0; i < lines.length; i++) {
                if (lines[i].startsWith(indent) && lines[i].length() > indent.length()
                        && lines[i].charAt(indent.length()) != ' ') {
                    if (lines[i].equals(indent + "}") && !lines[start].contains(" class ")) {
                        CHECK.due("at most 60 lines from line " + (start + 1), i - start < 60, true);
                    }
                    start = i;
                }
            }
        }
    }

    private static void members(Class<?> one) {
        int fields = 0;
        for (Field field : one.getDeclaredFields()) {
            int bits = field.getModifiers();
            fields += Modifier.isStatic(bits) ? 0 : 1;
            CHECK.due(field + " is static and not final",
                    Modifier.isStatic(bits) && !Modifier.isFinal(bits), false);
        }
        CHECK.due("at most twenty fields in " + one + ": " + fields, fields <= 20, true);
        for (Method method : one.getDeclaredMethods()) {
            CHECK.due("at most seven parameters in " + method, method.getParameterCount() <= 7,
                    true);
        }
    }

    /** A method or a constructor, as it stands in the text. */
    private static final class Routine {
        String name;
        boolean isPublic;
        final StringBuilder body = new StringBuilder();

        boolean isConstructor() {
            return Character.isUpperCase(name.charAt(0));
        }
    }

    /** Those of the class begin and end at an indent of 4, those of the classes inside at 8. */
    private static List<Routine> routines(String code) {
        List<Routine> found = new ArrayList<>();
        Pattern head = Pattern.compile("( {4}| {8})(?:[\\w\\[\\]]+ )*(\\w+)\\(.*");
        String[] lines = code.split("\n");
        String end = "";
        for (int i = 0; i + 1 < lines.length; i++) {
            Matcher matcher = head.matcher(lines[i]);
            boolean opens = lines[i].endsWith("{") || lines[i + 1].trim().startsWith("throws");
            if (end.isEmpty() && opens && matcher.matches()) {
                Routine routine = new Routine();
                routine.name = matcher.group(2);
                routine.isPublic = lines[i].trim().startsWith("public");
                found.add(routine);
                end = matcher.group(1) + "}";
            } else if (lines[i].equals(end)) {
                end = "";
            } else if (!end.isEmpty()) {
                found.get(found.size() - 1).body.append(lines[i]).append('\n');
            }
        }
        CHECK.due("methods are found: " + found.size(), found.size() > 100, true);
        return found;
    }

    /** Rules 6 and 12: written exceptions of three classes; constructors alone make objects. */
    private static void thrownAndMade(List<Routine> routines) {
        Pattern written = Pattern.compile(
                "throw new (IndexOutOfBounds|IllegalArgument|IllegalState)Exception\\(\"\"\\);");
        for (Routine routine : routines) {
            String body = routine.body.toString();
            String rest = written.matcher(body).replaceAll("");
            CHECK.due(routine.name + " throws something else", rest.contains("throw "), false);
            if (routine.isConstructor()) {
                CHECK.due(routine.name + " throws", body.contains("throw "), false);
            } else {
                CHECK.due(routine.name + " makes objects", rest.contains("new "), false);
            }
        }
    }

    /** Rule 1. */
    private static void publicNames(List<Routine> routines) {
        for (Routine open : routines) {
            for (Routine other : routines) {
                boolean clash = open.isPublic && !other.isPublic && open.name.equals(other.name);
                CHECK.due(other.name + " bears a public name", clash, false);
            }
        }
    }

    /** Rules 8 and 11: no recursion, and calls go at most eight deep. */
    private static void deepCalls(List<Routine> routines) {
        Map<String, String> bodies = new HashMap<>();
        for (Routine routine : routines) {
            bodies.merge(routine.name, routine.body.toString(), String::concat);
        }
        for (Routine routine : routines) {
            int depth = depth(routine.name, bodies, 1);
            CHECK.due(routine.name + " goes " + depth + " deep", depth <= 8, true);
        }
    }

    /** Two methods of one name are taken as one, so the true depth may be less. */
    private static int depth(String name, Map<String, String> bodies, int above) {
        int deepest = above;
        Matcher call = Pattern.compile("\\b(\\w+)\\(").matcher(bodies.get(name));
        while (call.find()) {
            String called = call.group(1);
            if (above <= 8 && bodies.containsKey(called)) {
                deepest = Math.max(deepest, depth(called, bodies, above + 1));
            }
        }
        return deepest;
    }
}
