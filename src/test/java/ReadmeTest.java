import java.io.IOException;
import java.nio.file.Files;
import java.nio.file.Path;
import java.util.List;
import java.util.Set;
import java.util.TreeSet;
import java.util.regex.Matcher;
import java.util.regex.Pattern;

/** What README.md says of the class's use: each call of its example has the answer that stands behind it. */
public final class ReadmeTest {
    private static final Pattern CALL = Pattern.compile("sieve\\.(\\w+)\\((.*)\\); +// (-?\\d+): .*");
    private static final Set<String> CALLS = Set.of("type", "clear", "compile", "instruction", "put", "cut", "set", "holds", "run", "state");

    private final Check check = new Check();
    private final String readme;

    private ReadmeTest(String readme) {
        this.readme = readme;
    }

    public static void main(String[] args) throws IOException {
        new ReadmeTest(Files.readString(Path.of("README.md"))).test();
    }

    private void test() {
        example();
        table();
        filters();
        check.finish();
    }

    private void example() {
        List<String> lines = block("java");
        check.same("how the example begins", true, lines.get(0).startsWith("PacketSieve sieve = new PacketSieve(65535);"));
        Sieve sieve = new Sieve(65535);
        Set<String> shown = new TreeSet<>();
        for (String line : lines.subList(1, lines.size())) {
            Matcher call = CALL.matcher(line);
            check.same("a call with its answer: " + line, true, call.matches());
            shown.add(call.group(1));
            check.due(line, call.group(3), () -> asked(sieve, call.group(1), call.group(2)));
        }
        check.same("the calls of the example", new TreeSet<>(CALLS), shown);
    }

    private void table() {
        Set<String> told = new TreeSet<>();
        Matcher row = Pattern.compile("(?m)^\\| `(\\w+)\\(").matcher(readme);
        while (row.find()) {
            told.add(row.group(1));
        }
        check.same("the calls of the table", new TreeSet<>(CALLS), told);
    }

    private void filters() {
        for (String text : block("text")) {
            String answer = Check.answer(Given.typed(text)::compile);
            check.same("compile() of \"" + text + "\": " + answer + ", refused", false, answer.startsWith("throws"));
        }
    }

    /** The lines of the first block of this kind. */
    private List<String> block(String kind) {
        Matcher block = Pattern.compile("(?s)```" + kind + "\n(.+?)\n```").matcher(readme);
        check.same("there is a block of " + kind, true, block.find());
        return block.group(1).lines().toList();
    }

    private static int asked(Sieve sieve, String call, String arguments) {
        String[] words = arguments.split(", ");
        long[] numbers = new long[2];
        for (int i = 0; i < words.length && !arguments.isEmpty(); i++) {
            numbers[i] = Long.decode(words[i].replace("_", "").replace("L", ""));
        }
        int second = (int) numbers[1];
        return switch (call) {
            case "type" -> sieve.type(numbers[0], second);
            case "clear" -> sieve.clear();
            case "compile" -> sieve.compile();
            case "instruction" -> sieve.instruction((int) numbers[0], second);
            case "put" -> sieve.put(numbers[0], second);
            case "cut" -> sieve.cut((int) numbers[0]);
            case "set" -> sieve.set((int) numbers[0], second);
            case "holds" -> sieve.holds();
            case "run" -> sieve.run();
            case "state" -> sieve.state((int) numbers[0]);
            default -> throw new AssertionError(call);
        };
    }
}
