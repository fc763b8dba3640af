import java.io.IOException;
import java.lang.reflect.Field;
import java.lang.reflect.Method;
import java.lang.reflect.Modifier;
import java.nio.file.Files;
import java.nio.file.Path;
import java.util.ArrayList;
import java.util.Arrays;
import java.util.List;
import java.util.Set;
import java.util.TreeSet;
import java.util.regex.Matcher;
import java.util.regex.Pattern;

/** The public face, and words that the language rules leave out of src/main/java/PlainLines.java. */
public final class LanguageTest {
    private static final String[] HEADINGS = {"---- 1 places", "---- 2 reading", "---- 3 counts",
        "---- 4 sheets, parts"};
    /** Those of a heading in the document's order. */
    private static final List<List<String>> FACE = List.of(
        List.of("int size(int)", "int line(int, int)", "long share(int)", "long lower()", "int good(int)",
            "int freeze(int, int)", "long choose(int)", "int about(int, int)", "long word(long)",
            "long fold(long)"),
        List.of("int wide(int)", "int check(long)", "int read(int, int)", "long path(int)", "int passed()",
            "long nearest(int, int, int)", "int send(int, long, long, long)"),
        List.of("int count(int)", "int across(int)", "int fails(int)"),
        List.of("int sheet(int, int, int)", "int lose(int)", "int put(int, int, long)",
            "long cell(int, int, int)", "int copy(int, int, int, int, int)", "int tell(int)", "int weigh(int)",
            "int as(int, int)", "int trace()", "int fault()", "int told(int)"));
    private static final Set<String> METHODS = allOf(FACE);
    private static final Set<String> CONSTANTS =
        Set.of("int UNKNOWN", "int OUTSIDE", "int STATE", "int NONE", "long LOST");
    private static final String[] LEFT_OUT = {"\\bthrow\\b", "\\bthrows\\b", "\\btry\\b", "\\bcatch\\b",
        "\\bsynchronized\\b", "\\bassert\\b", "->", "::", "\\bprotected\\b", "\\bpackage\\b", "Exact\\b",
        "\\bSystem\\.(?!arraycopy)", "\\bString\\b", "@\\w+", "\\bObject\\b", "\\bvar\\b",
        "\\bdouble\\b", "\\bfloat\\b", "\\bstatic \\{", "\\bequals\\b", "\\bhashCode\\b", "\\btoString\\b"};
    /** What the class takes of the library; rule 4 allows more. */
    private static final Set<String> TAKEN = Set.of("Arrays.fill", "System.arraycopy", "Long.bitCount",
        "Long.reverse", "Integer.bitCount", "Integer.numberOfTrailingZeros");
    private static final int MOST_LINES = 60;
    private static final int MOST_PARAMETERS = 7;

    public static void main(String[] args) throws IOException {
        methods();
        constants();
        nestedClasses();
        String source = Files.readString(Path.of("src/main/java/PlainLines.java"));
        String code = source.replaceAll("(?s)/\\*.*?\\*/", "").replaceAll("//[^\\n]*", "");
        for (String word : LEFT_OUT) {
            Due.isTrue("no " + word, !Pattern.compile(word).matcher(code).find());
        }
        headings(source);
        library(code);
        shortMethods(code);
        fewParameters();
        Due.isTrue("no new array or object beside constructors and fields", onlyFieldsAndConstructorMake(code));
        Due.end();
    }

    private static Set<String> allOf(List<List<String>> parts) {
        Set<String> all = new TreeSet<>();
        parts.forEach(all::addAll);
        return all;
    }

    /** 'Ahead of the calls .. the interface says': the calls of a heading stand behind it and ahead of the next. */
    private static void headings(String source) {
        int from = 0;
        for (int i = 0; i < HEADINGS.length; i++) {
            from = standsBehind(source, "    // " + HEADINGS[i] + "\n", from);
            for (String method : FACE.get(i)) {
                from = standsBehind(source, "    public " + method.substring(0, method.indexOf('(') + 1), from);
            }
        }
    }

    private static int standsBehind(String source, String words, int from) {
        int at = source.indexOf(words, from);
        Due.isTrue("once and in its order: " + words.trim(), at >= 0 && source.indexOf(words) == at);
        return Math.max(from, at);
    }

    private static void library(String code) {
        Matcher imports = Pattern.compile("import ([^;]*);").matcher(code);
        while (imports.find()) {
            Due.isTrue("import " + imports.group(1), imports.group(1).equals("java.util.Arrays"));
        }
        Due.isTrue("no name with its package", !code.replaceAll("import [^;]*;", "").contains("java."));
        Matcher calls = Pattern.compile("\\b([A-Z]\\w*\\.\\w+)\\(").matcher(code);
        while (calls.find()) {
            Due.isTrue("library call " + calls.group(1), TAKEN.contains(calls.group(1)));
        }
    }

    private static void shortMethods(String code) {
        String[] lines = code.split("\n");
        int found = 0;
        for (int i = 0; i < lines.length; i++) {
            if (lines[i].matches("( {4}| {8})[A-Za-z].*\\) \\{") && !lines[i].matches(" +(if|for|while|switch) .*")) {
                String end = lines[i].replaceAll("\\S.*", "") + "}";
                int last = i;
                while (last < lines.length && !lines[last].equals(end)) {
                    last++;
                }
                Due.isTrue("short: " + lines[i].trim(), last - i < MOST_LINES);
                found++;
            }
        }
        Due.isTrue("methods were found", found > METHODS.size());
    }

    private static void fewParameters() {
        List<Class<?>> classes = new ArrayList<>(List.of(PlainLines.class.getDeclaredClasses()));
        classes.add(PlainLines.class);
        for (Class<?> one : classes) {
            for (Method method : one.getDeclaredMethods()) {
                Due.isTrue("few parameters: " + method, method.getParameterCount() <= MOST_PARAMETERS);
            }
        }
    }

    private static void methods() {
        Set<String> found = new TreeSet<>();
        for (Method method : PlainLines.class.getDeclaredMethods()) {
            if (Modifier.isPublic(method.getModifiers())) {
                String types = Arrays.toString(Arrays.stream(method.getParameterTypes()).map(Class::getName).toArray());
                found.add(method.getReturnType() + " " + method.getName() + types.replace('[', '(').replace(']', ')'));
            } else {
                Due.isTrue(method + " is private", Modifier.isPrivate(method.getModifiers()));
            }
        }
        Due.isTrue("the methods of the face, not " + found, found.equals(METHODS));
        for (Method method : PlainLines.class.getDeclaredMethods()) {
            boolean sharesName = METHODS.stream().anyMatch(face -> face.contains(" " + method.getName() + "("));
            Due.isTrue("no private " + method, Modifier.isPublic(method.getModifiers()) || !sharesName);
        }
    }

    private static void constants() {
        Set<String> found = new TreeSet<>();
        for (Field field : PlainLines.class.getDeclaredFields()) {
            if (Modifier.isPublic(field.getModifiers())) {
                found.add(field.getType() + " " + field.getName());
            } else {
                Due.isTrue(field + " is private", Modifier.isPrivate(field.getModifiers()));
            }
        }
        Due.isTrue("the constants of the face, not " + found, found.equals(CONSTANTS));
        Due.is("public constructors", PlainLines.class.getConstructors().length, 1);
        Due.is("all constructors", PlainLines.class.getDeclaredConstructors().length, 1);
        Due.isTrue("the class is final", Modifier.isFinal(PlainLines.class.getModifiers()));
    }

    private static void nestedClasses() {
        Class<?>[] nested = PlainLines.class.getDeclaredClasses();
        Due.isTrue("at most twelve classes", nested.length < 12);
        for (Class<?> inside : nested) {
            Due.isTrue(inside + " is static", Modifier.isStatic(inside.getModifiers()));
            Due.isTrue(inside + " is not public", !Modifier.isPublic(inside.getModifiers()));
            Due.isTrue(inside + " has few fields", inside.getDeclaredFields().length <= 20);
            for (Field field : inside.getDeclaredFields()) {
                int modifiers = field.getModifiers();
                Due.isTrue(field + " is no state", !Modifier.isStatic(modifiers) || Modifier.isFinal(modifiers));
            }
        }
    }

    /** The constructor's lines have no type ahead of the name that is set, a field's have no call behind it. */
    private static boolean onlyFieldsAndConstructorMake(String code) {
        int constructor = code.indexOf("public PlainLines()");
        int end = code.indexOf("public int size");
        String beside = code.substring(0, constructor) + code.substring(end);
        for (String line : beside.split("\n")) {
            boolean makes = Pattern.compile("\\bnew\\b").matcher(line).find();
            if (makes && !line.matches("\\s+(private )?(final )?(int|long)\\[\\] \\w+ = new (int|long)\\[.*\\];")) {
                System.out.println("makes: " + line);
                return false;
            }
        }
        return true;
    }
}
