/** Promise 1: a new object. */
public final class NewObjectTest {
    private final Check check = new Check();

    public static void main(String[] args) {
        new NewObjectTest().test();
    }

    private void test() {
        emptyText();
        noFilter();
        emptyPacket();
        noRun();
        snap();
        ownState();
        check.finish();
    }

    private void emptyText() {
        check.sentence("An empty text");
        check.due("clear()", 0, new Sieve(7)::clear);
        check.due("type of one character", 1, () -> new Sieve(7).type(' ', 1));
        check.due("compile()", Given.BAD, new Sieve(7)::compile);
    }

    private void noFilter() {
        check.sentence("no filter");
        Sieve sieve = new Sieve(7);
        check.due("holds()", Given.EARLY, sieve::holds);
        check.due("run()", Given.EARLY, sieve::run);
        for (int what = 0; what <= 3; what++) {
            int asked = what;
            check.due("instruction(0, " + what + ")", -1, () -> sieve.instruction(0, asked));
        }
    }

    private void emptyPacket() {
        check.sentence("an empty packet");
        check.due("cut(0)", 0, () -> new Sieve(7).cut(0));
        check.due("cut(1)", -1, () -> new Sieve(7).cut(1));
        check.due("set(0, 1)", -1, () -> new Sieve(7).set(0, 1));
        check.due("put of one byte", 1, () -> new Sieve(7).put(0, 1));
        check.due("holds() of \"len=0\"", 1, Given.compiled("len=0")::holds);
        check.due("holds() of \"ether[0]=0\"", -1, Given.compiled("ether[0]=0")::holds);
    }

    private void noRun() {
        check.sentence("Of the latest run: 0 when there was none");
        Sieve sieve = new Sieve(7);
        for (int what = 0; what <= 18; what++) {
            int asked = what;
            check.due("state(" + what + ")", 0, () -> sieve.state(asked));
        }
    }

    private void snap() {
        check.sentence("SNAP is snap, but at least 1");
        snap(1, 1);
        snap(2, 2);
        snap(65536, 65536);
        snap(Integer.MAX_VALUE, Integer.MAX_VALUE);
        snap(0, 1);
        snap(-1, 1);
        snap(-65535, 1);
        snap(Integer.MIN_VALUE, 1);
    }

    private void snap(int given, int due) {
        Sieve sieve = new Sieve(given);
        Given.type(sieve, "1=1");
        sieve.compile();
        check.due("instruction(2, 3) with snap " + given, due, () -> sieve.instruction(2, 3));
        check.due("instruction(3, 3) with snap " + given, 0, () -> sieve.instruction(3, 3));
        check.due("run() with snap " + given, due, sieve::run);
    }

    private void ownState() {
        check.sentence("A new object");
        Sieve used = Given.compiled("len=1 and ether[0]=9", 9);
        Given.type(used, "ip");
        used.run();
        Sieve fresh = new Sieve(3);
        check.due("clear() beside an object with a text", 0, fresh::clear);
        check.due("cut(0) beside an object with a packet", 0, () -> fresh.cut(0));
        check.due("holds() beside an object with a filter", Given.EARLY, fresh::holds);
        check.due("state(0) beside an object that ran", 0, () -> fresh.state(0));
        Given.type(fresh, "1=2");
        fresh.compile();
        check.due("run() of the object that was there", Given.SNAP, used::run);
        check.due("clear() of the object that was there", 2, used::clear);
    }
}
