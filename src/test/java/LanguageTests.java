import java.lang.reflect.Field;
import java.lang.reflect.Modifier;
import java.nio.file.Files;
import java.nio.file.Path;
import java.util.ArrayList;
import java.util.List;
import java.util.Set;
import java.util.regex.Matcher;
import java.util.regex.Pattern;

/** The rules of LANGUAGE.md that can be read off the source, by their numbers; FaceTests has rule 1. */
final class LanguageTests {
    private static final Path SOURCE = Path.of("src/main/java/SequentKernel.java");
    /** What the class uses of the library; LANGUAGE.md allows more, which is added here when it is used. */
    private static final Set<String> LIBRARY = Set.of("Arrays.fill", "Math.max", "System.arraycopy");
    private static final Pattern METHOD = Pattern.compile(
            "^( {4}|        )(?:private |public |static |final )*(?:int|boolean|void) (\\w+)\\((.*)\\) \\{$");
    private static final int LONGEST_METHOD = 60;
    private static final int MOST_PARAMETERS = 7;
    private static final int MOST_CLASSES = 12;
    private static final int MOST_FIELDS = 20;

    private final String code;
    private final String[] lines;

    private LanguageTests(String source) {
        code = withoutComments(source);
        lines = code.split("\n");
    }

    static void all() throws Exception {
        LanguageTests tests = new LanguageTests(Files.readString(SOURCE));
        tests.oneFileWithoutPackage();
        tests.noForbiddenWord();
        tests.libraryAsListed();
        tests.methodsStayShort();
        classesStaySmall();
    }

    /** Every line keeps its place, so that methods can be measured. */
    private static String withoutComments(String source) {
        Matcher comment = Pattern.compile("/\\*.*?\\*/|//[^\n]*", Pattern.DOTALL).matcher(source);
        return comment.replaceAll(found -> found.group().replaceAll("[^\n]", ""));
    }

    private List<String> found(String pattern) {
        List<String> all = new ArrayList<>();
        Matcher matcher = Pattern.compile(pattern, Pattern.MULTILINE).matcher(code);
        while (matcher.find()) {
            all.add(matcher.group());
        }
        return all;
    }

    private void none(String rule, String pattern) {
        Check.is(rule + ": " + found(pattern), found(pattern).size(), 0);
    }

    private void oneFileWithoutPackage() throws Exception {
        try (var files = Files.list(SOURCE.getParent())) {
            Check.is("files of the program", files.count(), 1);
        }
        none("no package line", "^package ");
        Check.is("public classes", found("public .*class ").size(), 1);
        Check.yes("texts are plain", code.chars().allMatch(c -> c < 256));
    }

    private void noForbiddenWord() {
        none("2: no lambda, no method reference", "->|::");
        none("5: no static initialiser block", "static *\\{");
        none("6: no exceptions, locks or assertions",
                "\\b(throw|throws|try|catch|finally|synchronized|assert|getMessage)\\b");
        none("6: no equals, hashCode or toString", "\\b(equals|hashCode|toString)\\b");
        none("7: nothing is divided", "[^*/]/[^*/]|%");
        none("13: no clock, chance, file or thread", "\\b(Random|Thread|File|Path|currentTimeMillis|nanoTime|getenv)\\b");
    }

    private void libraryAsListed() {
        for (String line : found("^import .*$")) {
            Check.yes("4: " + line, line.equals("import java.util.Arrays;"));
        }
        for (String used : found("\\b(Arrays|Math|System|Integer|Long)\\.\\w+")) {
            Check.yes("4: " + used, LIBRARY.contains(used));
        }
        none("4: no class of the library that is made", "new (?!int|boolean|Types|Terms|Facts|Change|Rules|Trace|Numbers)\\w+");
    }

    private static void staticFieldsAreConstants(Class<?> one) {
        for (Field f : one.getDeclaredFields()) {
            if (Modifier.isStatic(f.getModifiers())) {
                Check.yes("5: " + f, Modifier.isFinal(f.getModifiers()) && f.getType() == int.class);
            }
        }
    }

    private void methodsStayShort() {
        int methods = 0;
        for (int start = 0; start < lines.length; start++) {
            Matcher head = METHOD.matcher(lines[start]);
            if (head.matches()) {
                methods++;
                int end = start;
                while (end < lines.length && !lines[end].equals(head.group(1) + "}")) {
                    end++;
                }
                Check.yes("11: lines of " + head.group(2), end - start < LONGEST_METHOD);
                Check.yes("11: parameters of " + head.group(2), head.group(3).split(",").length <= MOST_PARAMETERS);
            }
        }
        Check.yes("11: methods that were measured: " + methods, methods > 80);
    }

    private static void classesStaySmall() {
        List<Class<?>> classes = new ArrayList<>(List.of(SequentKernel.class.getDeclaredClasses()));
        classes.add(SequentKernel.class);
        Check.yes("11: classes", classes.size() <= MOST_CLASSES);
        for (Class<?> one : classes) {
            staticFieldsAreConstants(one);
            long fields = List.of(one.getDeclaredFields()).stream()
                    .filter(f -> !Modifier.isStatic(f.getModifiers())).count();
            Check.yes("11: fields of " + one, fields <= MOST_FIELDS);
        }
    }
}
