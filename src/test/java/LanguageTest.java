import java.nio.charset.StandardCharsets;
import java.nio.file.Files;
import java.nio.file.Path;
import java.util.ArrayList;
import java.util.HashSet;
import java.util.List;
import java.util.Set;
import java.util.regex.Matcher;
import java.util.regex.Pattern;

/** Rules of LANGUAGE.md that can be seen in the source's text and in the class's own members. */
final class LanguageTest {
    private static final int MAX_LINES = 60;
    private static final int MAX_PARAMETERS = 7;
    private static final int MAX_CLASSES = 12;
    private static final int MAX_FIELDS = 20;

    private LanguageTest() {
    }

    static void run(String path) throws Exception {
        String source = Files.readString(Path.of(path), StandardCharsets.ISO_8859_1);
        String code = bare(source);
        none(code, "->", "a lambda");
        none(code, "::", "a method reference");
        none(code, "\\b(catch|finally|synchronized|assert|instanceof|record|sealed)\\b", "a word");
        none(code, "\\b(float|double|Object|Exception|Throwable|Error)\\b", "a type");
        none(code, "\\b(toString|equals|hashCode|getClass)\\b", "a method of Object");
        none(code, "\\b(Random|Thread|Runtime|File|Class|Instant)\\b", "a library class");
        none(code, "\"\"\\s*\\+|\\+\\s*\"\"", "texts joined by +");
        none(code, "\\bstatic\\s*\\{", "a static initialiser");
        none(source, "[^\\x00-\\x7f]", "a sign above 127");
        imports(source);
        library(code);
        throwing(code);
        methods(code);
        members();
    }

    /** The source without comments and without what stands in texts and signs. */
    private static String bare(String source) {
        String code = source.replaceAll("(?s)/\\*.*?\\*/", "").replaceAll("//[^\\n]*", "");
        return code.replaceAll("\"(\\\\.|[^\"\\\\\\n])*\"", "\"\"").replaceAll("'(\\\\.|[^'\\\\\\n])'", "' '");
    }

    private static void none(String text, String pattern, String what) {
        Matcher m = Pattern.compile(pattern).matcher(text);
        Check.due(what + " (" + pattern + ")", m.find(), false);
    }

    private static void imports(String source) {
        Set<String> found = new HashSet<>();
        Matcher m = Pattern.compile("(?m)^(?:import|package) (.*);").matcher(source);
        while (m.find()) {
            found.add(m.group(1));
        }
        Check.due("imports " + found,
                found.equals(Set.of("java.util.Arrays", "java.util.NoSuchElementException")), true);
    }

    private static void library(String code) {
        Set<String> allowed = Set.of("Arrays.fill", "System.arraycopy", "Long.bitCount",
                "Long.numberOfTrailingZeros", "Integer.bitCount", "Math.min", "Math.max");
        Matcher m = Pattern.compile("\\b(Arrays|System|Long|Integer|Math|String|List|Character)\\.(\\w+)").matcher(code);
        while (m.find()) {
            Check.due("library: " + m.group(), allowed.contains(m.group()), true);
        }
    }

    /** A throw stands in deed alone, and nowhere else is it needed. */
    private static void throwing(String code) {
        int found = 0;
        Matcher m = Pattern.compile("\\bthrow\\b[^;]*").matcher(code);
        while (m.find()) {
            found++;
            Check.due("throw: " + m.group(), m.group().equals("throw new NoSuchElementException(\"\")"), true);
        }
        Check.due("throws", found, 1);
    }

    private static void methods(String code) {
        Pattern head = Pattern.compile("^ {4,8}(?:public |private |static |final )*[\\w\\[\\]]+ ?\\w*\\(([^)]*)\\)[^;]*\\{$");
        String[] lines = code.split("\n");
        int found = 0;
        for (int i = 0; i < lines.length; i++) {
            Matcher m = head.matcher(lines[i]);
            if (!m.matches()) {
                continue;
            }
            found++;
            int parameters = m.group(1).isEmpty() ? 0 : m.group(1).split(",").length;
            Check.due("parameters of " + lines[i].trim(), parameters <= MAX_PARAMETERS, true);
            String close = lines[i].replaceAll("\\S.*", "") + "}";
            int end = i;
            while (end < lines.length && !lines[end].equals(close)) {
                end++;
            }
            Check.due("lines of " + lines[i].trim(), end - i + 1 <= MAX_LINES, true);
        }
        Check.due("methods were found", found > 150, true);
    }

    private static void members() throws Exception {
        Class<?> face = Class.forName("OathYesterday");
        Set<String> names = new HashSet<>();
        for (java.lang.reflect.Method m : face.getMethods()) {
            if (m.getDeclaringClass() == face) {
                names.add(m.getName());
            }
        }
        Check.due("methods of the face", names.size(), 47);
        List<Class<?>> all = new ArrayList<>(List.of(face.getDeclaredClasses()));
        for (Class<?> inner : all) {
            Check.due(inner + " is static", java.lang.reflect.Modifier.isStatic(inner.getModifiers()), true);
        }
        all.add(face);
        Check.due("classes", all.size() <= MAX_CLASSES, true);
        for (Class<?> c : all) {
            privacy(c, face, names);
        }
        Check.due("constructors", face.getDeclaredConstructors().length, 1);
    }

    private static void privacy(Class<?> c, Class<?> face, Set<String> names) {
        int fields = 0;
        for (java.lang.reflect.Field f : c.getDeclaredFields()) {
            int kind = f.getModifiers();
            boolean constant = java.lang.reflect.Modifier.isStatic(kind);
            fields += constant ? 0 : 1;
            Check.due(f + " is final if static", !constant || java.lang.reflect.Modifier.isFinal(kind), true);
            boolean open = f.getName().equals("NONE") || f.getName().equals("HIDDEN");
            Check.due(f + " is private", java.lang.reflect.Modifier.isPrivate(kind), c == face ? !open
                    : java.lang.reflect.Modifier.isPrivate(kind));
        }
        Check.due("fields of " + c, fields <= MAX_FIELDS, true);
        for (java.lang.reflect.Method m : c.getDeclaredMethods()) {
            boolean isPublic = java.lang.reflect.Modifier.isPublic(m.getModifiers());
            boolean isPrivate = java.lang.reflect.Modifier.isPrivate(m.getModifiers());
            if (c == face) {
                Check.due(m + " is public or private", isPublic || isPrivate, true);
                Check.due(m + " throws", m.getExceptionTypes().length, m.getName().equals("deed") ? 1 : 0);
            }
            Check.due(m + " bears a name of its own", c == face && isPublic || !names.contains(m.getName()), true);
        }
    }
}
