/** Promise 3: clear. */
public final class ClearTest {
    public static void main(String[] args) {
        Check check = new Check();
        PacketSieve sieve = Given.compiled("1=1");
        Given.type(sieve, "not ");
        check.due("clear()", 4, sieve::clear);
        check.due("clear() again", 0, sieve::clear);
        check.due("compile() of nothing", Given.BAD, sieve::compile);
        Given.type(sieve, "1=2");
        check.due("clear() of a filter", 3, sieve::clear);
        check.due("holds() by the filter that was compiled", 1, sieve::holds);
        Given.type(sieve, "1=2");
        check.due("compile() of what came behind", 4, sieve::compile);
        check.due("holds()", 0, sieve::holds);
        check.due("clear() behind compile()", 0, sieve::clear);
        Given.type(sieve, Given.repeated("x", 160, ""));
        check.due("clear() of a full text", 160, sieve::clear);
        check.due("type behind it", 1, () -> sieve.type(120, 1));
        check.finish();
    }
}
