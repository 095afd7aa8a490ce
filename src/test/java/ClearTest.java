/** Promise 3: clear. */
public final class ClearTest {
    private final Check check = new Check();

    public static void main(String[] args) {
        new ClearTest().test();
    }

    private void test() {
        howMany();
        becomesEmpty();
        textAlone();
        check.finish();
    }

    private void howMany() {
        check.sentence("how many characters it had");
        for (int had = 0; had <= 160; had++) {
            Sieve sieve = Given.typed(Given.repeated("x", had, ""));
            check.due("clear() of " + had, had, sieve::clear);
            check.due("clear() again", 0, sieve::clear);
        }
    }

    private void becomesEmpty() {
        check.sentence("The text becomes empty");
        Sieve sieve = Given.typed("not 1=1");
        sieve.clear();
        check.due("compile() of nothing", Given.BAD, sieve::compile);
        Given.type(sieve, "1=2");
        check.due("compile() of what came behind", 4, sieve::compile);
        check.due("instruction(1, 2): not turned round", 1, () -> sieve.instruction(1, 2));
        Given.type(sieve, Given.repeated("x", 160, ""));
        sieve.clear();
        check.due("type of 8 behind a full text", 8, () -> sieve.type(Given.packed("port 160"), 8));
        check.due("compile() of these", 14, sieve::compile);
    }

    private void textAlone() {
        check.sentence("The text becomes empty (and nothing else)");
        Sieve sieve = Given.compiled("len=3", 7, 8, 9);
        sieve.run();
        Given.type(sieve, "1=2");
        check.due("clear()", 3, sieve::clear);
        check.due("holds() by the filter", 1, sieve::holds);
        check.due("state(0) of the latest run", 3, () -> sieve.state(0));
        check.due("state(1) of the latest run", 3, () -> sieve.state(1));
        check.due("run() of the program", Given.SNAP, sieve::run);
        check.due("cut(0) of the packet", 3, () -> sieve.cut(0));
    }
}
