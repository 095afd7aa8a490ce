/** Promise 1: a new object. */
public final class NewObjectTest {
    private final Check check = new Check();

    public static void main(String[] args) {
        new NewObjectTest().test();
    }

    private void test() {
        emptyText();
        noFilter();
        emptyPacket();
        noRun();
        snap();
        ownState();
        sideBySide();
        check.finish();
    }

    private void emptyText() {
        check.sentence("An empty text");
        check.due("clear()", 0, new Sieve(7)::clear);
        check.due("type of one character", 1, () -> new Sieve(7).type(' ', 1));
        check.due("compile()", Given.BAD, new Sieve(7)::compile);
    }

    private void noFilter() {
        check.sentence("no filter");
        Sieve sieve = new Sieve(7);
        check.due("holds()", Given.EARLY, sieve::holds);
        check.due("run()", Given.EARLY, sieve::run);
        for (int what = 0; what <= 3; what++) {
            int asked = what;
            check.due("instruction(0, " + what + ")", -1, () -> sieve.instruction(0, asked));
        }
    }

    private void emptyPacket() {
        check.sentence("an empty packet");
        check.due("cut(0)", 0, () -> new Sieve(7).cut(0));
        check.due("cut(1)", -1, () -> new Sieve(7).cut(1));
        check.due("set(0, 1)", -1, () -> new Sieve(7).set(0, 1));
        check.due("put of one byte", 1, () -> new Sieve(7).put(0, 1));
        check.due("holds() of \"len=0\"", 1, Given.compiled("len=0")::holds);
        check.due("holds() of \"ether[0]=0\"", -1, Given.compiled("ether[0]=0")::holds);
    }

    private void noRun() {
        check.sentence("Of the latest run: 0 when there was none");
        Sieve sieve = new Sieve(7);
        for (int what = 0; what <= 18; what++) {
            int asked = what;
            check.due("state(" + what + ")", 0, () -> sieve.state(asked));
        }
    }

    private void snap() {
        check.sentence("SNAP is snap, but at least 1");
        snap(1, 1);
        snap(2, 2);
        snap(65536, 65536);
        snap(Integer.MAX_VALUE, Integer.MAX_VALUE);
        snap(0, 1);
        snap(-1, 1);
        snap(-65535, 1);
        snap(Integer.MIN_VALUE, 1);
    }

    private void snap(int given, int due) {
        Sieve sieve = new Sieve(given);
        Given.type(sieve, "1=1");
        sieve.compile();
        check.due("instruction(2, 3) with snap " + given, due, () -> sieve.instruction(2, 3));
        check.due("instruction(3, 3) with snap " + given, 0, () -> sieve.instruction(3, 3));
        check.due("run() with snap " + given, due, sieve::run);
    }

    private void ownState() {
        check.sentence("A new object");
        Sieve used = Given.compiled("len=1 and ether[0]=9", 9);
        Given.type(used, "ip");
        used.run();
        Sieve fresh = new Sieve(3);
        check.due("clear() beside an object with a text", 0, fresh::clear);
        check.due("cut(0) beside an object with a packet", 0, () -> fresh.cut(0));
        check.due("holds() beside an object with a filter", Given.EARLY, fresh::holds);
        check.due("state(0) beside an object that ran", 0, () -> fresh.state(0));
        Given.type(fresh, "1=2");
        fresh.compile();
        check.due("run() of the object that was there", Given.SNAP, used::run);
        check.due("clear() of the object that was there", 2, used::clear);
    }

    private void sideBySide() {
        check.sentence("A new object (two of them side by side)");
        Sieve one = new Sieve(11);
        Sieve other = new Sieve(22);
        String[][] pieces = {{"ether[0]", "ip[0]+"}, {"*2=", "len"}, {"14", "=75"}};
        for (String[] piece : pieces) {
            Given.type(one, piece[0]);
            Given.type(other, piece[1]);
        }
        check.due("compile() of the one", 5, one::compile);
        check.due("compile() of the other", 10, other::compile);
        other.put(0, 6);
        one.put(7, 1);
        other.put(0, 6);
        one.put(9, 1);
        other.put(Given.packed(8, 0, 73), 3);
        one.cut(1);
        check.due("cut(15) of the other", 15, () -> other.cut(15));
        check.due("holds() of the one", 1, one::holds);
        check.due("run() of the one", 11, one::run);
        check.due("holds() of the other", 0, other::holds);
        check.due("set(14, 60) of the other", 73, () -> other.set(14, 60));
        check.due("run() of the other", 22, other::run);
        check.due("state(0) of the one", 4, () -> one.state(0));
        check.due("state(0) of the other", 9, () -> other.state(0));
        check.due("state(3) of the one", 0, () -> one.state(3));
        check.due("state(3) of the other", 15, () -> other.state(3));
        check.due("instruction(0, 0) of the one", 2, () -> one.instruction(0, 0));
        check.due("instruction(0, 0) of the other", 3, () -> other.instruction(0, 0));
    }
}
