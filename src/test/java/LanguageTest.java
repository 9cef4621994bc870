import java.io.IOException;
import java.lang.reflect.Executable;
import java.lang.reflect.Field;
import java.lang.reflect.Modifier;
import java.nio.file.Files;
import java.nio.file.Path;
import java.util.ArrayList;
import java.util.List;
import java.util.Set;
import java.util.regex.Matcher;
import java.util.regex.Pattern;

/** The rules of LANGUAGE.md that can be read from the class or from its text; rule 1 is in FaceTest. */
public final class LanguageTest {
    private static final Path SOURCE = Path.of("src/main/java/ExactFilter.java");
    private static final Set<String> IMPORTS = Set.of("java.util.Arrays", "java.util.ArrayList", "java.util.List",
            "java.util.Iterator", "java.util.NoSuchElementException");
    private static final Set<String> LIBRARY = Set.of("Arrays.copyOf", "Arrays.copyOfRange", "Arrays.fill",
            "System.arraycopy", "Math.max", "Math.min", "Math.abs");
    private static final Set<String> CONSTANTS = Set.of("int", "long", "boolean", "char", "class java.lang.String",
            "class [I", "class [J", "class [C", "class [B");
    private static final String[] FORBIDDEN = {
        "->", "::", "\\bfinally\\b", "\\bsynchronized\\b", "\\bassert\\b", "\\bstatic \\{", "\\bpackage\\b",
        "\\btry \\(", "\\w+Exact\\(", "\\bgetMessage\\b", "\\bhashCode\\b", "\\bObject\\b", "\\bvar\\b", "while \\(true\\)",
    };
    private static final int MOST_CLASSES = 12;
    private static final int MOST_FIELDS = 20;
    private static final int MOST_PARAMETERS = 7;
    private static final int MOST_LINES = 60;

    private final Checks checks = new Checks();
    private final String text;

    private LanguageTest(String text) {
        this.text = text;
    }

    public static void main(String[] args) throws IOException {
        String source = Files.readString(SOURCE);
        // Comments may say what they like.
        new LanguageTest(source.replaceAll("(?s)/\\*.*?\\*/|//[^\\n]*", "")).rules();
    }

    private void rules() {
        oneFileOfFewClasses();
        for (Class<?> type : classes()) {
            staticFieldsAreConstants(type);
            methodsTakeFewParameters(type);
        }
        theLibraryIsTheListedOne();
        nothingForbidden();
        exceptionsAreNewOnes();
        methodsAreShort();
        checks.end();
    }

    private static List<Class<?>> classes() {
        List<Class<?>> all = new ArrayList<>(List.of(ExactFilter.class.getDeclaredClasses()));
        all.add(ExactFilter.class);
        return all;
    }

    private void holds(String rule, boolean holds) {
        checks.same(rule, "true", Boolean.toString(holds));
    }

    /** "the file has at most some twelve classes, and a class some twenty fields beside its constants" */
    private void oneFileOfFewClasses() {
        holds("rule 11: few classes", classes().size() <= MOST_CLASSES);
        for (Class<?> type : classes()) {
            int fields = 0;
            for (Field field : type.getDeclaredFields()) {
                fields += Modifier.isStatic(field.getModifiers()) ? 0 : 1;
            }
            holds("rule 11: few fields in " + type.getName(), fields <= MOST_FIELDS);
            holds("rule 2: no class in a class of " + type.getName(),
                    type == ExactFilter.class || type.getDeclaredClasses().length == 0);
        }
    }

    /** "Static fields are final: constants of int, long, boolean, char or String, ..." */
    private void staticFieldsAreConstants(Class<?> type) {
        for (Field field : type.getDeclaredFields()) {
            int modifiers = field.getModifiers();
            if (Modifier.isStatic(modifiers)) {
                holds("rule 5: " + type.getName() + "." + field.getName(),
                        Modifier.isFinal(modifiers) && CONSTANTS.contains(field.getType().toString()));
            }
        }
    }

    /** "A method takes at most seven parameters." */
    private void methodsTakeFewParameters(Class<?> type) {
        List<Executable> all = new ArrayList<>(List.of(type.getDeclaredMethods()));
        all.addAll(List.of(type.getDeclaredConstructors()));
        for (Executable one : all) {
            holds("rule 11: few parameters of " + one, one.getParameterCount() <= MOST_PARAMETERS);
        }
    }

    /** "The library: only what stands here." */
    private void theLibraryIsTheListedOne() {
        Matcher imported = Pattern.compile("(?m)^import (.*);$").matcher(text);
        while (imported.find()) {
            holds("rule 4: import " + imported.group(1), IMPORTS.contains(imported.group(1)));
        }
        Matcher used = Pattern.compile("\\b(?:Arrays|System|Math|Integer|Long)\\.\\w+").matcher(text);
        while (used.find()) {
            boolean isImport = text.startsWith("import java.util.", used.start() - "import java.util.".length());
            holds("rule 4: " + used.group(), isImport || LIBRARY.contains(used.group()));
        }
    }

    private void nothingForbidden() {
        for (String forbidden : FORBIDDEN) {
            Matcher found = Pattern.compile(forbidden).matcher(text);
            holds("rules 2, 4, 5, 6, 9: nothing like " + forbidden, !found.find());
        }
    }

    /** "throw new E() or throw new E("a written text")", here of the three that the document names. */
    private void exceptionsAreNewOnes() {
        Pattern right = Pattern.compile(
                "throw new (IllegalState|IllegalArgument|Arithmetic)Exception\\((\"[^\"]*\")?\\);.*");
        Matcher thrown = Pattern.compile("\\bthrow [^\\n]*").matcher(text);
        while (thrown.find()) {
            holds("rule 6: " + thrown.group(), right.matcher(thrown.group()).matches());
        }
    }

    /** "Methods stay short (some sixty lines)": a method's last line is a brace as far in as its first line. */
    private void methodsAreShort() {
        String head = "^((?: {4}){1,2})(?! )[^\\n=;]*\\)(?:\\n {12})?[^\\n;]*\\{$";
        Matcher method = Pattern.compile("(?m)" + head + "(?s:(.*?))^\\1\\}$").matcher(text);
        int methods = 0;
        while (method.find()) {
            methods++;
            holds("rule 11: few lines from " + method.group().trim().lines().findFirst().orElse(""),
                    method.group(2).lines().count() <= MOST_LINES);
        }
        holds("rule 11: all methods were found, and not only " + methods, methods == declaredMethods());
    }

    private static int declaredMethods() {
        int count = 0;
        for (Class<?> type : classes()) {
            count += type.getDeclaredMethods().length + type.getDeclaredConstructors().length;
        }
        return count;
    }
}
