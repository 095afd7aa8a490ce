import java.io.IOException;
import java.nio.file.Files;
import java.nio.file.Path;
import java.util.ArrayList;
import java.util.List;
import java.util.Set;
import java.util.TreeSet;
import java.util.regex.Matcher;
import java.util.regex.Pattern;

/** What a look at the source can tell of the rules of LANGUAGE.md. */
public final class LanguageTest {
    private static final String[] FORBIDDEN = {
        "\\bpackage\\b", "\\bimport (?!java\\.util\\.(ArrayList|List|Arrays|Iterator);)", "::", "(?m)^(?!.*\\b(case|default)\\b).*->",
        "\\bfinally\\b", "\\bsynchronized\\b", "\\bassert\\b", "\\bstatic \\{", "\\bnative\\b", "\\bThread\\b",
        "\\bSystem\\.(?!arraycopy)", "Exact\\(", "\\bhashCode\\b", "\\bgetMessage\\b", "while \\(true\\)", "for \\(;;\\)",
    };
    private static final Set<String> EXCEPTIONS = Set.of("IllegalStateException", "IllegalArgumentException",
            "IndexOutOfBoundsException", "ArithmeticException", "UnsupportedOperationException", "NoSuchElementException",
            "RuntimeException");
    /** Some sixty, some twelve. */
    private static final int LONGEST_METHOD = 66;
    private static final int MOST_CLASSES = 13;

    public static void main(String[] args) throws IOException {
        Check check = new Check();
        String source = Files.readString(Path.of("src/main/java/PacketSieve.java"));
        String code = source.replaceAll("(?s)/\\*.*?\\*/", "").replaceAll("//[^\n]*", "");
        for (String pattern : FORBIDDEN) {
            check.same("the source has " + pattern, false, Pattern.compile(pattern).matcher(code).find());
        }
        check.same("too many classes", true, found(code, "\\bclass (\\w+)").size() <= MOST_CLASSES);
        List<String> thrown = found(code, "\\bthrow new (\\w+)\\((?:\"[^\"]*\")?\\);");
        for (String exception : thrown) {
            check.same(exception + " may be thrown", true, EXCEPTIONS.contains(exception));
        }
        check.same("throws in the form that is allowed", found(code, "\\b(throw)\\b").size(), thrown.size());
        for (String field : found(code, "\\bstatic (\\w+ \\w+ \\w+|\\w+\\[?]? \\w+) =")) {
            check.same("the static field " + field + " is a constant", true, field.startsWith("final "));
        }
        shortMethods(check, source.split("\n"));
        check.finish();
    }

    private static List<String> found(String code, String pattern) {
        List<String> found = new ArrayList<>();
        Matcher matcher = Pattern.compile(pattern).matcher(code);
        while (matcher.find()) {
            found.add(matcher.group(1));
        }
        return found;
    }

    /** By the indentation: a method of a class begins and ends with the same one. */
    private static void shortMethods(Check check, String[] lines) {
        Set<String> tooLong = new TreeSet<>();
        for (int i = 0; i < lines.length; i++) {
            Matcher head = Pattern.compile("( {4}| {8})\\w.*\\).*\\{").matcher(lines[i]);
            if (head.matches()) {
                int end = i;
                while (end < lines.length && !lines[end].equals(head.group(1) + "}")) {
                    end++;
                }
                if (end - i > LONGEST_METHOD) {
                    tooLong.add(lines[i].trim());
                }
            }
        }
        check.same("the methods that are too long", new TreeSet<String>(), tooLong);
    }
}
