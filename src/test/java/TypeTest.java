/** Promise 2: type. */
public final class TypeTest {
    private static final long BLANKS = 0x2020202020202020L;

    private final Check check = new Check();

    public static void main(String[] args) {
        new TypeTest().test();
    }

    private void test() {
        lowestFirst();
        lowestBytesOnly();
        countOutside();
        noCharacter();
        full();
        argumentsFirst();
        nothingOnBadArguments();
        nothingOnFullText();
        check.finish();
    }

    private static Sieve withBlanks(int n) {
        return Given.typed(Given.repeated(" ", n, ""));
    }

    private void lowestFirst() {
        check.sentence("The n lowest bytes of a number are typed, the lowest first: how many characters there are");
        String text = "1|2|3|4|5|6|7|8|9|10|11|12|13|14=150";
        Sieve sieve = new Sieve(1);
        int end = 0;
        for (int n = 1; n <= 8; n++) {
            String piece = text.substring(end, end + n);
            int size = n;
            end += n;
            check.due("type(\"" + piece + "\", " + n + ")", end, () -> sieve.type(Given.packed(piece), size));
        }
        check.due("compile() of these pieces", 17, sieve::compile);
        for (int k = 1; k <= 13; k++) {
            check.same("instruction " + k, "27 0 0 " + (k + 1), Given.instruction(sieve, k));
        }
        check.same("the test", "40 0 1 150", Given.instruction(sieve, 14));
    }

    private void lowestBytesOnly() {
        check.sentence("The n lowest bytes of a number are typed");
        for (int n = 1; n <= 7; n++) {
            for (long above : new long[] {0, -1, 0x0101010101010101L, 0x3232323232323232L}) {
                Sieve sieve = new Sieve(1);
                Given.type(sieve, "len=1");
                int size = n;
                long characters = above << (8 * n) | BLANKS & (1L << (8 * n)) - 1;
                check.due("type(" + characters + ", " + n + ")", 5 + n, () -> sieve.type(characters, size));
                check.due("compile() behind it", 4, sieve::compile);
                check.due("instruction(1, 3)", 1, () -> sieve.instruction(1, 3));
            }
        }
    }

    private void countOutside() {
        check.sentence("IllegalArgumentException: n is not 1 .. 8");
        Sieve sieve = Given.typed("ip");
        for (int n : new int[] {0, 9, -1, -8, 10, 16, 64, 160, 256, 257, 65537, Integer.MIN_VALUE, Integer.MAX_VALUE}) {
            check.due("type of n " + n, Given.BAD, () -> sieve.type(BLANKS, n));
        }
        check.due("clear() behind them", 2, sieve::clear);
        check.due("type of n 1", 1, () -> sieve.type(BLANKS, 1));
        check.due("type of n 8", 9, () -> sieve.type(BLANKS, 8));
    }

    private void noCharacter() {
        check.sentence("IllegalArgumentException: one is no character (32 .. 126)");
        for (int c = 0; c <= 255; c++) {
            boolean character = c >= 32 && c <= 126;
            for (int n = 1; n <= 8; n++) {
                Sieve sieve = new Sieve(1);
                int size = n;
                long last = (BLANKS & ~(255L << 8 * (n - 1))) | (long) c << 8 * (n - 1);
                check.due("type with " + c + " as the last of " + n, character ? n : Given.BAD, () -> sieve.type(last, size));
                long first = BLANKS & ~255L | c;
                check.due("type with " + c + " as the first of " + n, character ? 2 * n : Given.BAD, () -> sieve.type(first, size));
                check.due("clear() behind it", character ? 2 * n : 0, sieve::clear);
            }
        }
    }

    private void full() {
        check.sentence("otherwise IllegalStateException: there would be more than 160");
        for (int had = 150; had <= 160; had++) {
            for (int n = 1; n <= 8; n++) {
                Sieve sieve = withBlanks(had);
                int size = n;
                boolean room = had + n <= 160;
                check.due("type of " + n + " behind " + had, room ? had + n : Given.EARLY, () -> sieve.type(BLANKS, size));
                check.due("clear() behind it", room ? had + n : had, sieve::clear);
            }
        }
    }

    private void argumentsFirst() {
        check.sentence("IllegalArgumentException ..; otherwise IllegalStateException");
        Sieve sieve = withBlanks(160);
        check.due("type of n 0 into a full text", Given.BAD, () -> sieve.type(BLANKS, 0));
        check.due("type of n 9 into a full text", Given.BAD, () -> sieve.type(BLANKS, 9));
        check.due("type of n -1 into a full text", Given.BAD, () -> sieve.type(BLANKS, -1));
        check.due("type of 31 into a full text", Given.BAD, () -> sieve.type(31, 1));
        check.due("type of 127 into a full text", Given.BAD, () -> sieve.type(127, 1));
        check.due("type of 0 as the eighth into a full text", Given.BAD, () -> sieve.type(BLANKS >>> 8, 8));
        check.due("type of a blank into a full text", Given.EARLY, () -> sieve.type(' ', 1));
        check.due("type of a blank, 31 above it, into a full text", Given.EARLY, () -> sieve.type(Given.packed(32, 31), 1));
    }

    private void nothingOnBadArguments() {
        check.sentence("Nothing is typed then (IllegalArgumentException)");
        Sieve sieve = Given.typed("len=");
        check.due("type of \"1\" and 127", Given.BAD, () -> sieve.type(Given.packed('1', 127), 2));
        check.due("type of seven digits and 0", Given.BAD, () -> sieve.type(Given.packed("1111111"), 8));
        check.due("type of n 9", Given.BAD, () -> sieve.type(Given.packed("11111111"), 9));
        check.due("type of n 0", Given.BAD, () -> sieve.type('1', 0));
        check.due("type of \"2\"", 5, () -> sieve.type('2', 1));
        check.due("compile()", 4, sieve::compile);
        check.due("instruction(1, 3)", 2, () -> sieve.instruction(1, 3));
    }

    private void nothingOnFullText() {
        check.sentence("Nothing is typed then (IllegalStateException)");
        Sieve sieve = Given.typed(Given.repeated(" ", 152, "") + "1=2");
        check.due("type of 6 behind 155", Given.EARLY, () -> sieve.type(Given.packed("333333"), 6));
        check.due("type of 8 behind 155", Given.EARLY, () -> sieve.type(Given.packed("33333333"), 8));
        check.due("type of 5 behind 155", 160, () -> sieve.type(Given.packed("4    "), 5));
        check.due("type of one more", Given.EARLY, () -> sieve.type('3', 1));
        check.due("compile() of 160 characters", 4, sieve::compile);
        check.due("instruction(1, 3)", 24, () -> sieve.instruction(1, 3));
        check.due("type behind compile()", 1, () -> sieve.type('1', 1));
    }
}
