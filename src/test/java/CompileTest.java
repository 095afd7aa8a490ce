import java.util.ArrayList;
import java.util.List;

/** Promise 4: compile. What is a filter is left to GrammarTest, what is too long to TooLongTest. */
public final class CompileTest {
    private static final String SIXTEEN_PORTS = Given.repeated("port 1", 16, "or ");
    private static final String MANY_CELLS = Given.repeated("len", 18, "+") + "=1";
    private static final String[] NO_FILTERS = {"", " ", "tcp or", "(udp[0]=1", "1=1)", "len", "1=2 or port 65536", "~"};
    private static final String[] TOO_LONG = {SIXTEEN_PORTS, MANY_CELLS, "udp or " + MANY_CELLS, "len=1 or(" + SIXTEEN_PORTS + ")"};

    private final Check check = new Check();

    public static void main(String[] args) {
        new CompileTest().test();
    }

    private void test() {
        becomesTheFilter();
        nothingOfFormerFilters();
        againAndAgain();
        textIsEmptyThen();
        howMany();
        noFilter();
        tooLong();
        noFilterAheadOfTooLong();
        filterStays();
        noFilterStays();
        textStays();
        restStays();
        check.finish();
    }

    private void becomesTheFilter() {
        check.sentence("The text becomes the filter");
        Sieve sieve = new Sieve(Given.SNAP);
        Given.packet(sieve, Given.tcp());
        String[] texts = {"tcp", "udp", "port 80", "1=2", "len=60", "dst host 1.2.3.4", "ip"};
        int[] dues = {1, 0, 1, 0, 1, 0, 1};
        for (int i = 0; i < texts.length; i++) {
            Given.type(sieve, texts[i]);
            if (i > 0) {
                check.due("holds() ahead of compile() of \"" + texts[i] + "\"", dues[i - 1], sieve::holds);
            }
            sieve.compile();
            check.due("holds() of \"" + texts[i] + "\"", dues[i], sieve::holds);
            check.due("run() of \"" + texts[i] + "\"", dues[i] * Given.SNAP, sieve::run);
        }
    }

    /** A filter has its place in the object twice, perhaps: so each of the former ones is compiled twice. */
    private void nothingOfFormerFilters() {
        check.sentence("The text becomes the filter (nothing of former ones stays)");
        String[] texts = {"1=1", "len=len", "ip[0]=1", "tcp[0]=1", "udp[len]=ip[0]", "tcp[udp[ip[ether[0]]]]=ether[len:4]", "not tcp", "host 1.2.3.4",
            "src net 1.2.3.4/5", "dst port 6", "1+2-3*4/5<<6>>7&8|9=len", "(1=2 or 3=4)and not(5=6 and 7=8)", Given.repeated("len", 17, "+") + "=1",
            "ether[0]=1 or ip[0]=1 or tcp[0]=1 or udp[0]=1"};
        for (String text : texts) {
            List<String> due = program(Given.compiled(text));
            for (String former : texts) {
                Sieve sieve = new Sieve(Given.SNAP);
                for (String each : new String[] {former, former, text}) {
                    Given.type(sieve, each);
                    sieve.compile();
                }
                check.same("the program of \"" + text + "\" behind \"" + former + "\"", due, program(sieve));
            }
        }
    }

    private void againAndAgain() {
        check.sentence("An object is used for at most 512 calls (of compile())");
        String[] texts = {Given.repeated("1", 77, "+") + "=77", Given.repeated("1=2", 30, "or") + "or 1=1", Given.repeated("len", 17, "-") + "!=1",
            "1=1", "{{{{{{{{1}}}}}}}}=ether[ether[ether[0]]]"};
        int[] dues = {80, 64, 68, 4, 11};
        for (int i = 0; i < texts.length; i++) {
            Sieve sieve = new Sieve(Given.SNAP);
            sieve.put(0, 1);
            Given.type(sieve, "1=0");
            while (sieve.calls() < Sieve.MOST_CALLS - 24) {
                Check.answer(sieve::compile);
                Given.type(sieve, texts[i]);
                check.due("compile() of \"" + texts[i] + "\", call " + sieve.calls(), dues[i], sieve::compile);
            }
            check.due("holds() of \"" + texts[i] + "\"", i == 4 ? 0 : 1, sieve::holds);
            check.due("run() of \"" + texts[i] + "\"", i == 4 ? 0 : Given.SNAP, sieve::run);
        }
    }

    private void textIsEmptyThen() {
        check.sentence("and is empty then");
        Sieve sieve = Given.typed("1=1");
        check.due("compile()", 4, sieve::compile);
        check.due("compile() again", Given.BAD, sieve::compile);
        check.due("clear()", 0, sieve::clear);
        check.due("holds() by the filter", 1, sieve::holds);
        check.due("type of one character", 1, () -> sieve.type('1', 1));
        Sieve full = Given.typed("1=1" + Given.repeated(" ", 157, ""));
        check.due("compile() of 160 characters", 4, full::compile);
        check.due("type of 8 characters", 8, () -> full.type(Given.packed("not 2=2 "), 8));
        check.due("compile() of these", 4, full::compile);
        check.due("holds() of these", 0, full::holds);
    }

    private void howMany() {
        check.sentence("how many instructions its program has");
        String[] texts = {"1=1", "ip", "udp", "not tcp", "src host 1.2.3.4", "host 1.2.3.4", "net 1.2.3.4/8",
            "dst net 1.2.3.4/8", "port 1", "src port 1", "{{1}}={{2}}", "1={2+3}", "tcp[0]=1", "udp[len]=ip[0]",
            Given.repeated("1", 78, "+") + "=11"};
        int[] dues = {4, 4, 6, 6, 6, 8, 10, 7, 14, 12, 4, 8, 16, 21, 81};
        for (int i = 0; i < texts.length; i++) {
            Sieve sieve = Given.typed(texts[i]);
            int due = dues[i];
            check.due("compile() of \"" + texts[i] + "\"", due, sieve::compile);
            check.same("its last instruction but one", "60 0 0 1500", Given.instruction(sieve, due - 2));
            check.same("its last instruction", "60 0 0 0", Given.instruction(sieve, due - 1));
            check.due("the one behind", -1, () -> sieve.instruction(due, 0));
        }
    }

    private void noFilter() {
        check.sentence("IllegalArgumentException: it is no filter");
        for (String text : NO_FILTERS) {
            check.due("compile() of \"" + text + "\"", Given.BAD, Given.typed(text)::compile);
        }
    }

    private void tooLong() {
        check.sentence("UnsupportedOperationException: it is TOO LONG");
        for (String text : TOO_LONG) {
            check.due("compile() of \"" + text + "\"", Given.TOO_LONG, Given.typed(text)::compile);
        }
    }

    private void noFilterAheadOfTooLong() {
        check.sentence("IllegalArgumentException: it is no filter (so it can't be TOO LONG)");
        for (String text : TOO_LONG) {
            for (String more : new String[] {" or", ")", "=1", " ip", "~"}) {
                check.due("compile() of \"" + text + more + "\"", Given.BAD, Given.typed(text + more)::compile);
            }
            check.due("compile() of \"(" + text + "\"", Given.BAD, Given.typed("(" + text)::compile);
        }
    }

    private static List<String> program(Sieve sieve) {
        List<String> rows = new ArrayList<>();
        for (int k = 0; sieve.instruction(k, 0) >= 0; k++) {
            rows.add(Given.instruction(sieve, k));
        }
        return rows;
    }

    private static String[] refused() {
        List<String> all = new ArrayList<>(List.of(NO_FILTERS));
        all.addAll(List.of(TOO_LONG));
        return all.toArray(new String[0]);
    }

    private static Object due(String text) {
        return List.of(TOO_LONG).contains(text) ? Given.TOO_LONG : Given.BAD;
    }

    private void filterStays() {
        check.sentence("(The filter stays as it was then.)");
        for (String text : refused()) {
            Sieve sieve = Given.compiled("len=5 and not ether[1+1:2]=772", 1, 2, 3, 4, 5);
            List<String> before = program(sieve);
            Given.type(sieve, text);
            check.due("compile() of \"" + text + "\"", due(text), sieve::compile);
            check.due("holds() behind \"" + text + "\"", 0, sieve::holds);
            check.due("run() behind \"" + text + "\"", 0, sieve::run);
            check.due("set(3, 5)", 4, () -> sieve.set(3, 5));
            check.due("compile() again", due(text), sieve::compile);
            check.due("holds() behind \"" + text + "\" again", 1, sieve::holds);
            check.due("run() behind \"" + text + "\" again", Given.SNAP, sieve::run);
            check.same("the program behind \"" + text + "\"", before, program(sieve));
        }
    }

    private void noFilterStays() {
        check.sentence("(The filter stays as it was then: there is none.)");
        for (String text : refused()) {
            Sieve sieve = Given.typed(text);
            check.due("compile() of \"" + text + "\"", due(text), sieve::compile);
            check.due("holds() behind \"" + text + "\"", Given.EARLY, sieve::holds);
            check.due("run() behind \"" + text + "\"", Given.EARLY, sieve::run);
            check.due("instruction(0, 0) behind \"" + text + "\"", -1, () -> sieve.instruction(0, 0));
            check.due("state(0) behind \"" + text + "\"", 0, () -> sieve.state(0));
        }
    }

    private void textStays() {
        check.sentence("(The text stays as it was then.)");
        for (String text : refused()) {
            Sieve sieve = Given.typed(text);
            check.due("compile() of \"" + text + "\"", due(text), sieve::compile);
            check.due("compile() of \"" + text + "\" again", due(text), sieve::compile);
            check.due("type behind it", text.length() + 1, () -> sieve.type(' ', 1));
            check.due("compile() of \"" + text + " \"", due(text), sieve::compile);
            check.due("clear()", text.length() + 1, sieve::clear);
        }
        Sieve halves = Given.typed("ip o");
        check.due("compile() of half a text", Given.BAD, halves::compile);
        Given.type(halves, "r tcp");
        check.due("compile() of the whole text", 8, halves::compile);
        Sieve brackets = Given.typed("((((((((ip");
        check.due("compile() with all brackets open", Given.BAD, brackets::compile);
        check.due("compile() with all brackets open, again", Given.BAD, brackets::compile);
        Given.type(brackets, "))))))))");
        check.due("compile() with all of them closed", 4, brackets::compile);
        Sieve cells = Given.typed(MANY_CELLS);
        check.due("compile() of too many cells", Given.TOO_LONG, cells::compile);
        Given.type(cells, "=");
        check.due("compile() of what is no filter any more", Given.BAD, cells::compile);
    }

    private void restStays() {
        check.sentence("compile (and nothing of the packet or of the latest run)");
        Sieve sieve = Given.compiled("ether[0]=ether[1]", 7, 8, 9);
        sieve.run();
        for (String text : new String[] {"ip", "ip and", MANY_CELLS}) {
            sieve.clear();
            Given.type(sieve, text);
            Check.answer(sieve::compile);
            check.due("state(0) behind compile() of \"" + text + "\"", 6, () -> sieve.state(0));
            check.due("state(1)", 7, () -> sieve.state(1));
            check.due("state(2)", 8, () -> sieve.state(2));
            check.due("state(3)", 8, () -> sieve.state(3));
            check.due("cut(3) of the packet", 3, () -> sieve.cut(3));
            check.due("set(2, 9)", 9, () -> sieve.set(2, 9));
        }
    }
}
