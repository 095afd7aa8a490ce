/** Promise 6: put. */
public final class PutTest {
    public static void main(String[] args) {
        Check check = new Check();
        PacketSieve sieve = Given.compiled("ether[0:4]=16909060 and ether[4]=255 and len=5");
        check.due("put of 4", 4, () -> sieve.put(Given.packed(1, 2, 3, 4), 4));
        check.due("put of 1, bytes above it", 5, () -> sieve.put(-1L, 1));
        check.due("holds() of these bytes, the lowest first", 1, sieve::holds);
        for (int n : new int[] {0, 9, -1, -8, Integer.MIN_VALUE, Integer.MAX_VALUE}) {
            check.due("put of n " + n, -1, () -> sieve.put(0, n));
        }
        check.due("holds() behind refusals", 1, sieve::holds);
        check.due("put of 8 more", 13, () -> sieve.put(Given.packed(200, 201, 202, 203, 204, 205, 206, 207), 8));
        check.due("set(5) of the lowest", 200, () -> sieve.set(5, 0));
        check.due("set(12) of the highest", 207, () -> sieve.set(12, 0));
        full(check);
        behindCut(check);
        check.finish();
    }

    private static void full(Check check) {
        PacketSieve sieve = new PacketSieve(1);
        for (int had = 0; had < 72; had += 8) {
            int due = had + 8;
            check.due("put of 8 behind " + had, due, () -> sieve.put(0, 8));
        }
        check.due("put of 1 behind 72", 73, () -> sieve.put(5, 1));
        check.due("put of the 81st", -1, () -> sieve.put(-1L, 8));
        check.due("put of the 80th", 80, () -> sieve.put(0, 7));
        check.due("put of 1 more", -1, () -> sieve.put(0, 1));
        check.due("set(72, 0)", 5, () -> sieve.set(72, 0));
        check.due("set(79, 0)", 0, () -> sieve.set(79, 0));
        check.due("cut(0)", 80, () -> sieve.cut(0));
    }

    private static void behindCut(Check check) {
        PacketSieve sieve = new PacketSieve(1);
        sieve.put(Given.packed(1, 2, 3, 4), 4);
        sieve.cut(2);
        check.due("put behind a cut", 3, () -> sieve.put(9, 1));
        check.due("set(2, 0)", 9, () -> sieve.set(2, 0));
        check.due("set(3, 0)", -1, () -> sieve.set(3, 0));
    }
}
