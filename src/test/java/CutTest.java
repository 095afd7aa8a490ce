/** Promise 7: cut. */
public final class CutTest {
    public static void main(String[] args) {
        Check check = new Check();
        PacketSieve sieve = Given.compiled("len=3 and ether[1:2]=515");
        sieve.put(Given.packed(1, 2, 3, 4, 5), 5);
        check.due("cut(6)", -1, () -> sieve.cut(6));
        check.due("cut(-1)", -1, () -> sieve.cut(-1));
        check.due("cut(MIN)", -1, () -> sieve.cut(Integer.MIN_VALUE));
        check.due("cut(MAX)", -1, () -> sieve.cut(Integer.MAX_VALUE));
        check.due("cut(5) of all", 5, () -> sieve.cut(5));
        check.due("cut(3)", 5, () -> sieve.cut(3));
        check.due("holds() of the first ones", 1, sieve::holds);
        check.due("cut(4) back", -1, () -> sieve.cut(4));
        check.due("cut(0)", 3, () -> sieve.cut(0));
        check.due("cut(0) again", 0, () -> sieve.cut(0));
        check.due("cut(1) of nothing", -1, () -> sieve.cut(1));
        check.due("holds() of nothing", 0, sieve::holds);
        check.finish();
    }
}
