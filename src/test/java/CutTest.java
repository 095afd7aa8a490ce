/** Promise 7: cut. */
public final class CutTest {
    private final Check check = new Check();

    public static void main(String[] args) {
        new CutTest().test();
    }

    private void test() {
        allLengths();
        firstOnes();
        outside();
        outsideOfEmpty();
        outsideOfFull();
        notBack();
        packetAlone();
        check.finish();
    }

    private static int[] counted(int n) {
        int[] bytes = new int[n];
        for (int i = 0; i < n; i++) {
            bytes[i] = 100 + i;
        }
        return bytes;
    }

    private static Sieve withBytes(int n) {
        Sieve sieve = new Sieve(1);
        Given.packet(sieve, counted(n));
        return sieve;
    }

    private void allLengths() {
        check.sentence("The packet has n bytes from now on: how many it had");
        for (int had = 0; had <= 80; had++) {
            for (int n : new int[] {0, 1, had / 2, had - 1, had}) {
                if (n >= 0 && n <= had) {
                    Sieve sieve = withBytes(had);
                    int was = had;
                    check.due("cut(" + n + ") of " + had, was, () -> sieve.cut(n));
                    check.due("cut(" + n + ") again", n, () -> sieve.cut(n));
                    check.due("set behind its end", -1, () -> sieve.set(n, 0));
                    check.due("put behind its end", n == 80 ? -1 : n + 1, () -> sieve.put(0, 1));
                }
            }
        }
    }

    private void firstOnes() {
        check.sentence("the first ones");
        Sieve sieve = Given.compiled("len=3 and ether[1:2]=25958", counted(5));
        check.due("cut(3)", 5, () -> sieve.cut(3));
        check.due("holds()", 1, sieve::holds);
        check.due("run()", Given.SNAP, sieve::run);
        check.due("set(0, 100)", 100, () -> sieve.set(0, 100));
        check.due("cut(3) of 3", 3, () -> sieve.cut(3));
        check.due("holds() of the same", 1, sieve::holds);
        check.due("cut(0)", 3, () -> sieve.cut(0));
        check.due("holds() of nothing", 0, sieve::holds);
        Sieve field = Given.compiled("ether[1:2]=25958", counted(3));
        check.due("cut(2)", 3, () -> field.cut(2));
        check.due("holds() of a field that is cut", -1, field::holds);
        check.due("run() over a field that is cut", 0, field::run);
    }

    private void outside() {
        check.sentence("-1, doing nothing, when n is not 0 .. that");
        Sieve sieve = Given.compiled("len=5 and ether[4]=104 and ether[0]=100", counted(5));
        for (int n : new int[] {6, 7, 80, 81, 256, 261, -1, -5, -251, Integer.MIN_VALUE, Integer.MAX_VALUE}) {
            check.due("cut(" + n + ") of 5", -1, () -> sieve.cut(n));
            check.due("holds() behind it", 1, sieve::holds);
        }
        check.due("cut(5)", 5, () -> sieve.cut(5));
        check.due("holds() behind cut(5)", 1, sieve::holds);
        check.due("cut(4)", 5, () -> sieve.cut(4));
        check.due("cut(5) of 4", -1, () -> sieve.cut(5));
        check.due("cut(0) of 4", 4, () -> sieve.cut(0));
    }

    private void outsideOfEmpty() {
        check.sentence("-1, doing nothing, when n is not 0 .. that (an empty packet)");
        Sieve sieve = new Sieve(1);
        check.due("cut(0)", 0, () -> sieve.cut(0));
        check.due("cut(1)", -1, () -> sieve.cut(1));
        check.due("cut(-1)", -1, () -> sieve.cut(-1));
        check.due("cut(80)", -1, () -> sieve.cut(80));
        check.due("put of 1", 1, () -> sieve.put(0, 1));
    }

    private void outsideOfFull() {
        check.sentence("-1, doing nothing, when n is not 0 .. that (a full packet)");
        Sieve sieve = withBytes(80);
        check.due("cut(81)", -1, () -> sieve.cut(81));
        check.due("cut(-1)", -1, () -> sieve.cut(-1));
        check.due("cut(80)", 80, () -> sieve.cut(80));
        check.due("set(79, 0)", 179, () -> sieve.set(79, 0));
        check.due("cut(79)", 80, () -> sieve.cut(79));
        check.due("set(79, 0) behind the end", -1, () -> sieve.set(79, 0));
        check.due("set(78, 0)", 178, () -> sieve.set(78, 0));
    }

    private void notBack() {
        check.sentence("The packet has n bytes from now on (the others don't come back)");
        Sieve sieve = withBytes(8);
        sieve.cut(2);
        check.due("cut(3)", -1, () -> sieve.cut(3));
        check.due("cut(8)", -1, () -> sieve.cut(8));
        check.due("put of 2", 4, () -> sieve.put(Given.packed(1, 2), 2));
        int[] due = {100, 101, 1, 2, -1};
        for (int place = 0; place < due.length; place++) {
            int asked = place;
            check.due("the byte at " + place, due[place], () -> sieve.set(asked, 0));
        }
    }

    private void packetAlone() {
        check.sentence("cut (and nothing else)");
        Sieve sieve = Given.compiled("len=0", counted(4));
        sieve.run();
        Given.type(sieve, "not ");
        check.due("cut(0)", 4, () -> sieve.cut(0));
        check.due("state(0)", 3, () -> sieve.state(0));
        check.due("state(1)", 4, () -> sieve.state(1));
        check.due("clear()", 4, sieve::clear);
        check.due("holds()", 1, sieve::holds);
    }
}
