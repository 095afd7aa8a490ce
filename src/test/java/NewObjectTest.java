/** Promise 1: a new object. */
public final class NewObjectTest {
    public static void main(String[] args) {
        Check check = new Check();
        PacketSieve fresh = new PacketSieve(7);
        check.due("a new object's clear()", 0, fresh::clear);
        check.due("a new object's cut(1)", -1, () -> fresh.cut(1));
        check.due("a new object's cut(0)", 0, () -> fresh.cut(0));
        check.due("a new object's holds()", Given.EARLY, fresh::holds);
        check.due("a new object's run()", Given.EARLY, fresh::run);
        check.due("a new object's instruction(0, 0)", -1, () -> fresh.instruction(0, 0));
        check.due("a new object's compile()", Given.BAD, fresh::compile);
        for (int what = 0; what <= 18; what++) {
            int asked = what;
            check.due("a new object's state(" + what + ")", 0, () -> fresh.state(asked));
        }
        snap(check, 1, 1);
        snap(check, 2, 2);
        snap(check, 0, 1);
        snap(check, -1, 1);
        snap(check, Integer.MIN_VALUE, 1);
        snap(check, Integer.MAX_VALUE, Integer.MAX_VALUE);
        check.finish();
    }

    private static void snap(Check check, int given, int due) {
        PacketSieve sieve = new PacketSieve(given);
        Given.type(sieve, "1=1");
        sieve.compile();
        check.due("instruction(2, 3) with snap " + given, due, () -> sieve.instruction(2, 3));
        check.due("run() with snap " + given, due, sieve::run);
    }
}
