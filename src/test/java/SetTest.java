/** Promise 8: set. */
public final class SetTest {
    public static void main(String[] args) {
        Check check = new Check();
        PacketSieve sieve = Given.compiled("ether[0:4]=4278190338");
        sieve.put(Given.packed(9, 0, 200, 2), 4);
        check.due("set(0, -1)", 9, () -> sieve.set(0, -1));
        check.due("set(2, 257)", 200, () -> sieve.set(2, 257));
        check.due("holds() of the lowest eight bits", 1, sieve::holds);
        check.due("set(0, 0)", 255, () -> sieve.set(0, 0));
        check.due("set(2, 0x7FFFFF80)", 1, () -> sieve.set(2, 0x7FFFFF80));
        check.due("set(2, 0)", 128, () -> sieve.set(2, 0));
        check.due("set(3, 2), the last one", 2, () -> sieve.set(3, 2));
        for (int place : new int[] {-1, 4, 79, 80, Integer.MIN_VALUE, Integer.MAX_VALUE}) {
            check.due("set(" + place + ", 1)", -1, () -> sieve.set(place, 1));
        }
        check.due("cut(4)", 4, () -> sieve.cut(4));
        sieve.cut(2);
        check.due("set(2, 7) behind the end", -1, () -> sieve.set(2, 7));
        check.due("set on an empty packet", -1, () -> new PacketSieve(1).set(0, 1));
        check.finish();
    }
}
