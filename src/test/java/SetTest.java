/** Promise 8: set. */
public final class SetTest {
    private final Check check = new Check();

    public static void main(String[] args) {
        new SetTest().test();
    }

    private void test() {
        allPlaces();
        lowestBits();
        whatWasThere();
        outside();
        outsideOfEmpty();
        behindCut();
        packetAlone();
        check.finish();
    }

    private void allPlaces() {
        check.sentence("Sets the byte at a place: what was there");
        Sieve sieve = new Sieve(1);
        Given.packet(sieve, new int[80]);
        for (int round = 0; round < 2; round++) {
            for (int place = 0; place < 80; place++) {
                int asked = place;
                check.due("set(" + place + ", " + (place + 1) + ")", round == 0 ? 0 : place + 1, () -> sieve.set(asked, asked + 1));
            }
        }
        Sieve filter = Given.compiled("ether[76:4]=16909060", new int[80]);
        for (int i = 0; i < 4; i++) {
            int asked = i;
            check.due("holds() ahead of set", 0, filter::holds);
            check.due("set(" + (76 + i) + ", " + (i + 1) + ")", 0, () -> filter.set(76 + asked, asked + 1));
        }
        check.due("holds() of what was set", 1, filter::holds);
        check.due("run() over what was set", Given.SNAP, filter::run);
    }

    private void lowestBits() {
        check.sentence("to the lowest eight bits of v");
        Sieve sieve = Given.compiled("ether[0:4]=4278190338", 0, 0, 0, 2);
        check.due("set(0, -1)", 0, () -> sieve.set(0, -1));
        check.due("set(2, 257)", 0, () -> sieve.set(2, 257));
        check.due("holds()", 1, sieve::holds);
        int[] given = {255, 256, 257, 511, 512, 128, 127, -1, -128, -129, -256, 0x7FFFFF80, Integer.MIN_VALUE, Integer.MAX_VALUE};
        int[] due = {255, 0, 1, 255, 0, 128, 127, 255, 128, 127, 0, 128, 0, 255};
        for (int i = 0; i < given.length; i++) {
            int v = given[i];
            sieve.set(1, v);
            check.due("what set(1, " + v + ") left there", due[i], () -> sieve.set(1, 0));
        }
        check.due("set(0, 255) beside it", 255, () -> sieve.set(0, 255));
        check.due("set(2, 1) beside it", 1, () -> sieve.set(2, 1));
    }

    private void whatWasThere() {
        check.sentence("what was there");
        Sieve sieve = new Sieve(1);
        sieve.put(0, 1);
        for (int b = 0; b <= 255; b++) {
            int v = b;
            check.due("set(0, " + b + ")", b == 0 ? 0 : b - 1, () -> sieve.set(0, v));
        }
    }

    private void outside() {
        check.sentence("-1, doing nothing, when there is none");
        for (int had : new int[] {1, 4, 79, 80}) {
            Sieve sieve = new Sieve(1);
            Given.packet(sieve, new int[had]);
            check.due("set of the last one of " + had, 0, () -> sieve.set(had - 1, 9));
            for (int place : new int[] {-1, -80, had, had + 1, 80, 81, 256, Integer.MIN_VALUE, Integer.MAX_VALUE}) {
                check.due("set(" + place + ", 1) of " + had, -1, () -> sieve.set(place, 1));
            }
            check.due("cut(" + had + ") behind them", had, () -> sieve.cut(had));
            check.due("set of the last one behind them", 9, () -> sieve.set(had - 1, 9));
            check.due("set(0, 0) behind them", had == 1 ? 9 : 0, () -> sieve.set(0, 0));
        }
        Sieve sieve = new Sieve(1);
        sieve.put(0, 4);
        check.due("set(4, 7)", -1, () -> sieve.set(4, 7));
        check.due("put of 2 behind it", 6, () -> sieve.put(Given.packed(1, 2), 2));
        check.due("set(4, 0)", 1, () -> sieve.set(4, 0));
    }

    private void outsideOfEmpty() {
        check.sentence("-1, doing nothing, when there is none (an empty packet)");
        Sieve sieve = new Sieve(1);
        check.due("set(0, 1)", -1, () -> sieve.set(0, 1));
        check.due("set(-1, 1)", -1, () -> sieve.set(-1, 1));
        check.due("cut(0)", 0, () -> sieve.cut(0));
    }

    private void behindCut() {
        check.sentence("-1, doing nothing, when there is none (any more)");
        Sieve sieve = new Sieve(1);
        sieve.put(Given.packed(1, 2, 3, 4), 4);
        sieve.cut(2);
        check.due("set(2, 7)", -1, () -> sieve.set(2, 7));
        check.due("set(3, 7)", -1, () -> sieve.set(3, 7));
        check.due("set(1, 7)", 2, () -> sieve.set(1, 7));
        sieve.cut(0);
        check.due("set(0, 7)", -1, () -> sieve.set(0, 7));
    }

    private void packetAlone() {
        check.sentence("set (and nothing else)");
        Sieve sieve = Given.compiled("ether[0]=0", 0);
        sieve.run();
        Given.type(sieve, "not ");
        check.due("set(0, 1)", 0, () -> sieve.set(0, 1));
        check.due("state(0)", 3, () -> sieve.state(0));
        check.due("clear()", 4, sieve::clear);
        check.due("holds()", 0, sieve::holds);
        check.due("cut(0)", 1, () -> sieve.cut(0));
    }
}
