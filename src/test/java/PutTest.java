/** Promise 6: put. */
public final class PutTest {
    private static final long DIGITS = 0x3837363534333231L;

    private final Check check = new Check();

    public static void main(String[] args) {
        new PutTest().test();
    }

    private void test() {
        lowestFirst();
        lowestBytesOnly();
        allBytes();
        countOutside();
        full();
        doingNothing();
        behindCut();
        packetAlone();
        check.finish();
    }

    private static Sieve withBytes(int n) {
        Sieve sieve = new Sieve(1);
        Given.packet(sieve, new int[n]);
        return sieve;
    }

    /** What set answers was there; it is set to the same again. */
    private void bytes(Sieve sieve, int... due) {
        for (int i = 0; i < due.length; i++) {
            int place = i;
            check.due("the byte at " + place, due[i], () -> sieve.set(place, due[place]));
        }
        check.due("the byte behind the last one", -1, () -> sieve.set(due.length, 0));
    }

    private void lowestFirst() {
        check.sentence("The n lowest bytes of a number are put behind the packet's, the lowest first: how many it has");
        Sieve sieve = new Sieve(1);
        int[] due = new int[36];
        int had = 0;
        for (int n = 1; n <= 8; n++) {
            int size = n;
            for (int i = 0; i < n; i++) {
                due[had + i] = 0x31 + i;
            }
            had += n;
            check.due("put of " + n, had, () -> sieve.put(DIGITS, size));
        }
        bytes(sieve, due);
        Sieve filter = Given.compiled("ether[0:4]=16909060 and ether[4:4]=84281096 and len=8");
        check.due("put of 8", 8, () -> filter.put(0x0807060504030201L, 8));
        check.due("holds() of these bytes", 1, filter::holds);
        check.due("run() over these bytes", Given.SNAP, filter::run);
    }

    private void lowestBytesOnly() {
        check.sentence("The n lowest bytes of a number are put");
        for (int n = 1; n <= 7; n++) {
            int[] due = new int[n + 1];
            due[n] = 9;
            int size = n;
            Sieve sieve = new Sieve(1);
            check.due("put of " + n + ", bytes above", n, () -> sieve.put(-1L << (8 * size), size));
            check.due("put of 1 behind it", n + 1, () -> sieve.put(9, 1));
            bytes(sieve, due);
        }
    }

    private void allBytes() {
        check.sentence("The n lowest bytes (each 0 .. 255)");
        for (int b = 0; b <= 255; b++) {
            Sieve sieve = new Sieve(1);
            int v = b;
            check.due("put of 8 times " + b, 8, () -> sieve.put(0x0101010101010101L * v, 8));
            bytes(sieve, b, b, b, b, b, b, b, b);
        }
    }

    private void countOutside() {
        check.sentence("-1, doing nothing, when n is not 1 .. 8");
        Sieve sieve = new Sieve(1);
        sieve.put(DIGITS, 2);
        for (int n : new int[] {0, 9, -1, -8, 10, 16, 64, 80, 256, 257, 65537, Integer.MIN_VALUE, Integer.MAX_VALUE}) {
            check.due("put of n " + n, -1, () -> sieve.put(0, n));
        }
        bytes(sieve, 0x31, 0x32);
        check.due("put of n 1", 3, () -> sieve.put(0, 1));
        check.due("put of n 8", 11, () -> sieve.put(0, 8));
        Sieve cutBack = withBytes(80);
        cutBack.cut(40);
        check.due("put of n 0", -1, () -> cutBack.put(0, 0));
        check.due("put of n -40", -1, () -> cutBack.put(0, -40));
        check.due("put of n 9", -1, () -> cutBack.put(0, 9));
        check.due("cut(40) behind them", 40, () -> cutBack.cut(40));
    }

    private void full() {
        check.sentence("-1, doing nothing, when there would be more than 80");
        for (int had = 70; had <= 80; had++) {
            for (int n = 1; n <= 8; n++) {
                Sieve sieve = withBytes(had);
                int size = n;
                boolean room = had + n <= 80;
                check.due("put of " + n + " behind " + had, room ? had + n : -1, () -> sieve.put(-1L, size));
                int has = room ? had + n : had;
                check.due("set of the last byte", room ? 255 : 0, () -> sieve.set(has - 1, 0));
                check.due("set behind the last byte", -1, () -> sieve.set(has, 0));
                check.due("cut(0) behind it", has, () -> sieve.cut(0));
            }
        }
    }

    private void doingNothing() {
        check.sentence("-1, doing nothing");
        Sieve sieve = Given.compiled("len=77 and ether[76]=0", new int[77]);
        check.due("put of 4 behind 77", -1, () -> sieve.put(-1L, 4));
        check.due("put of 8 behind 77", -1, () -> sieve.put(-1L, 8));
        check.due("put of 9 behind 77", -1, () -> sieve.put(-1L, 9));
        check.due("holds() behind them", 1, sieve::holds);
        check.due("put of 3 behind 77", 80, () -> sieve.put(Given.packed(1, 2, 3), 3));
        check.due("set(77, 0)", 1, () -> sieve.set(77, 0));
        check.due("set(79, 0)", 3, () -> sieve.set(79, 0));
        check.due("put of 1 behind 80", -1, () -> sieve.put(7, 1));
        check.due("set(0, 0) behind it", 0, () -> sieve.set(0, 0));
        check.due("set(79, 0) behind it", 0, () -> sieve.set(79, 0));
    }

    private void behindCut() {
        check.sentence("are put behind the packet's (when it was cut)");
        Sieve sieve = new Sieve(1);
        sieve.put(DIGITS, 8);
        sieve.cut(2);
        check.due("put of 1 behind a cut", 3, () -> sieve.put(9, 1));
        bytes(sieve, 0x31, 0x32, 9);
        Sieve emptied = withBytes(80);
        emptied.cut(0);
        check.due("put of 8 behind cut(0)", 8, () -> emptied.put(DIGITS, 8));
        bytes(emptied, 0x31, 0x32, 0x33, 0x34, 0x35, 0x36, 0x37, 0x38);
    }

    private void packetAlone() {
        check.sentence("put (and nothing else)");
        Sieve sieve = Given.compiled("len=0");
        sieve.run();
        Given.type(sieve, "not ");
        check.due("put of 1", 1, () -> sieve.put(1, 1));
        check.due("state(0)", 3, () -> sieve.state(0));
        check.due("clear()", 4, sieve::clear);
        check.due("holds()", 0, sieve::holds);
    }
}
