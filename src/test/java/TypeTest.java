/** Promise 2: type. */
public final class TypeTest {
    public static void main(String[] args) {
        Check check = new Check();
        counts(check);
        refusals(check);
        full(check);
        check.finish();
    }

    private static void counts(Check check) {
        PacketSieve sieve = new PacketSieve(1);
        check.due("type(l, 1)", 1, () -> sieve.type(Given.packed("l"), 1));
        check.due("type(en>0, 4), bytes above them", 5, () -> sieve.type(Given.packed("en>0") | 0xFF00FF0100000000L, 4));
        check.due("type of 8 blanks", 13, () -> sieve.type(0x2020202020202020L, 8));
        check.due("compile() of what was typed, the lowest first", 4, sieve::compile);
        check.due("instruction(0, 0)", 1, () -> sieve.instruction(0, 0));
        check.due("type behind a compile()", 1, () -> sieve.type(126, 1));
    }

    private static void refusals(Check check) {
        PacketSieve sieve = Given.typed("ip");
        for (int n : new int[] {0, 9, -1, Integer.MIN_VALUE, Integer.MAX_VALUE}) {
            check.due("type of n " + n, Given.BAD, () -> sieve.type(0x2020202020202020L, n));
        }
        for (int c : new int[] {0, 1, 31, 127, 128, 255}) {
            check.due("type of " + c, Given.BAD, () -> sieve.type(c, 1));
            check.due("type of " + c + " as the eighth", Given.BAD, () -> sieve.type(Given.packed(32, 32, 32, 32, 32, 32, 32, c), 8));
            check.due("type of " + c + " in the middle", Given.BAD, () -> sieve.type(Given.packed(32, c, 32), 3));
        }
        check.due("type of 32 and 126", 4, () -> sieve.type(Given.packed(32, 126), 2));
        check.due("clear() behind refusals", 4, sieve::clear);
    }

    private static void full(Check check) {
        PacketSieve sieve = Given.typed(Given.repeated(" ", 155, ""));
        check.due("type of the 161st", Given.EARLY, () -> sieve.type(Given.packed("1=1   "), 6));
        check.due("type of no character when there is no room", Given.BAD, () -> sieve.type(0, 6));
        check.due("type of n 9 when there is no room", Given.BAD, () -> sieve.type(0x2020202020202020L, 9));
        check.due("type of the 160th", 160, () -> sieve.type(Given.packed("  1=1"), 5));
        check.due("type of one more", Given.EARLY, () -> sieve.type(32, 1));
        check.due("compile() of 160 characters", 4, sieve::compile);
    }
}
