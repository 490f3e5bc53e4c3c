import java.io.IOException;
import java.lang.reflect.Constructor;
import java.lang.reflect.Field;
import java.lang.reflect.Method;
import java.lang.reflect.Modifier;
import java.nio.file.Files;
import java.nio.file.Path;
import java.util.ArrayList;
import java.util.List;
import java.util.Set;
import java.util.TreeSet;
import java.util.regex.Matcher;
import java.util.regex.Pattern;

/** The public face of the document, and those rules of LANGUAGE.md that source and class file show. */
public final class LanguageTest {
    private static final Path SOURCE = Path.of("src/main/java/FoldPress.java");
    private static final Path DOCUMENT = Path.of("../shared/DOC.md");
    private static final int MOST_PARAMETERS = 7, MOST_CLASSES = 12, MOST_FIELDS = 20, MOST_LINES = 60;
    private static final String[] FORBIDDEN = {
        "\\bthrow\\b", "\\btry\\b", "\\bcatch\\b", "\\bsynchronized\\b", "\\bassert\\b", "\\bimport\\b",
        "\\bpackage\\b", "->", "::", "Exact\\b", "\\bjava\\.", "\\bSystem\\.(?!arraycopy)", "\\bprotected\\b",
    };

    private static final Due T = new Due();

    private static Set<String> documentedMethods() throws IOException {
        Set<String> methods = new TreeSet<>();
        Matcher call = Pattern.compile("^    public int (\\w+)\\((.*)\\);$", Pattern.MULTILINE)
            .matcher(Files.readString(DOCUMENT));
        while (call.find()) {
            methods.add(call.group(1) + "/" + (call.group(2).isEmpty() ? 0 : call.group(2).split(",").length));
        }
        return methods;
    }

    private static void face() throws IOException {
        T.holds(Modifier.isPublic(FoldPress.class.getModifiers()), "the class is not public");
        T.holds(Modifier.isFinal(FoldPress.class.getModifiers()), "the class is not final");
        Set<String> methods = new TreeSet<>();
        for (Method method : FoldPress.class.getDeclaredMethods()) {
            boolean open = Modifier.isPublic(method.getModifiers());
            T.holds(open || Modifier.isPrivate(method.getModifiers()), method + " is neither public nor private");
            if (open) {
                methods.add(method.getName() + "/" + method.getParameterCount());
                T.holds(method.getReturnType() == int.class, method + " does not answer an int");
            }
        }
        T.holds(methods.equals(documentedMethods()) && methods.size() == 51, "other methods than documented: " + methods);
        Set<String> constants = new TreeSet<>();
        for (Field field : FoldPress.class.getDeclaredFields()) {
            boolean open = Modifier.isPublic(field.getModifiers());
            T.holds(open || Modifier.isPrivate(field.getModifiers()), field + " is neither public nor private");
            if (open) {
                constants.add(field.getName());
            }
        }
        T.holds(constants.equals(Set.of("OUTSIDE", "NONE", "FULL", "JAMMED", "BUSY")), "other constants: " + constants);
        Constructor<?>[] constructors = FoldPress.class.getDeclaredConstructors();
        T.holds(constructors.length == 1 && constructors[0].getParameterCount() == 0, "other constructors");
        T.due(1, FoldPress.OUTSIDE, -1);
        T.due(1, FoldPress.NONE, -2);
        T.due(1, FoldPress.FULL, -3);
        T.due(1, FoldPress.JAMMED, -4);
        T.due(1, FoldPress.BUSY, -5);
    }

    private static void classes() {
        List<Class<?>> all = new ArrayList<>(List.of(FoldPress.class.getDeclaredClasses()));
        Set<String> open = new TreeSet<>();
        for (Method method : FoldPress.class.getMethods()) {
            open.add(method.getName());
        }
        for (Class<?> inside : all) {
            int modifiers = inside.getModifiers();
            T.holds(Modifier.isStatic(modifiers), inside + " is not static");
            T.holds(!Modifier.isPublic(modifiers) && !Modifier.isProtected(modifiers), inside + " is open");
            for (Method method : inside.getDeclaredMethods()) {
                T.holds(!open.contains(method.getName()), method + " bears the name of a public method");
            }
        }
        all.add(FoldPress.class);
        T.holds(all.size() <= MOST_CLASSES, all.size() + " classes");
        for (Class<?> one : all) {
            int fields = 0;
            for (Field field : one.getDeclaredFields()) {
                boolean isStatic = Modifier.isStatic(field.getModifiers());
                T.holds(!isStatic || Modifier.isFinal(field.getModifiers()), field + " is static and not final");
                fields += isStatic ? 0 : 1;
            }
            T.holds(fields <= MOST_FIELDS, one + " has " + fields + " fields");
            for (Method method : one.getDeclaredMethods()) {
                // The document's own face gives shift() eight.
                boolean few = method.getParameterCount() <= MOST_PARAMETERS || method.getName().equals("shift");
                T.holds(few, method + " has too many parameters");
            }
        }
    }

    private static void source() throws IOException {
        String text = Files.readString(SOURCE);
        String code = text.replaceAll("(?s)/\\*.*?\\*/", "").replaceAll("//[^\n]*", "");
        for (String word : FORBIDDEN) {
            T.holds(!Pattern.compile(word).matcher(code).find(), "the source has " + word);
        }
        T.holds(text.chars().allMatch(c -> c < 128), "the source has a character beyond 127");
        int length = 0;
        for (String line : code.split("\n")) {
            length = line.matches("(    ){1,2}[^ }].*\\) \\{") ? 1 : length + 1;
            boolean ends = line.matches("(    ){1,2}\\}");
            T.holds(!ends || length <= MOST_LINES || line.equals("    }"), "a method of " + length + " lines");
        }
    }

    public static void main(String[] args) throws IOException {
        face();
        classes();
        source();
        T.end();
    }
}
