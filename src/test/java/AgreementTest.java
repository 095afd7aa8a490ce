import java.util.Random;

/**
 * Promises 2 to 11 over many made-up filters, broken texts and packets: the answers are those of Oracle. The seed is
 * written here, so that each run of the test is the same.
 */
public final class AgreementTest {
    private static final int TEXTS = 60_000;
    private static final int PACKETS = 4;

    private final Random random = new Random(20261115);
    private final Check check = new Check();
    private int filters;
    private int refused;
    private int tooLong;
    private final int[] verdicts = new int[3];

    public static void main(String[] args) {
        new AgreementTest().test();
    }

    private void test() {
        for (int i = 0; i < TEXTS && check.isAllRight(); i++) {
            String text = random.nextInt(20) == 0 ? crowded() : filter(random.nextInt(4));
            if (random.nextInt(4) == 0) {
                text = broken(text);
            }
            if (text.length() <= 160) {
                agree(text);
            }
        }
        System.out.println(filters + " filters, " + refused + " no filters, " + tooLong + " too long; " + verdicts[0]
                + " rejected, " + verdicts[1] + " failed, " + verdicts[2] + " held");
        boolean all = filters > 1000 && refused > 1000 && tooLong > 100;
        check.same("there is enough of each kind", true,
                all && verdicts[0] > 1000 && verdicts[1] > 1000 && verdicts[2] > 1000);
        check.finish();
    }

    private void agree(String text) {
        Sieve sieve = prepared(text);
        Oracle.Condition filter;
        int[][] program;
        try {
            filter = Oracle.parse(text);
            program = Oracle.program(filter, Given.SNAP);
        } catch (Oracle.NoFilter e) {
            refused++;
            refuses(sieve, text, Given.BAD);
            return;
        } catch (Oracle.TooLong e) {
            tooLong++;
            refuses(sieve, text, Given.TOO_LONG);
            return;
        }
        filters++;
        check.due("compile() of \"" + text + "\"", program.length, sieve::compile);
        check.due("clear() behind \"" + text + "\"", 0, sieve::clear);
        for (int i = 0; i < PACKETS && check.isAllRight(); i++) {
            sameAnswers(sieve, text, filter, program);
        }
        sameProgram(text, program);
    }

    /** Another filter is there already: what stays of it must not show. */
    private static Sieve prepared(String text) {
        Sieve sieve = Given.compiled("1=1");
        Given.type(sieve, text);
        return sieve;
    }

    private void refuses(Sieve sieve, String text, String due) {
        check.due("compile() of \"" + text + "\"", due, sieve::compile);
        check.due("clear() behind \"" + text + "\"", text.length(), sieve::clear);
        check.due("holds() by the filter before \"" + text + "\"", 1, sieve::holds);
        check.due("run() of the program before \"" + text + "\"", Given.SNAP, sieve::run);
    }

    /** An object is asked for a hundred instructions at most: more would take more than its calls. */
    private void sameProgram(String text, int[][] program) {
        Sieve sieve = null;
        for (int k = 0; k < program.length; k++) {
            if (k % 100 == 0) {
                sieve = prepared(text);
                sieve.compile();
            }
            for (int what = 0; what < 4; what++) {
                check.same("instruction(" + k + ", " + what + ") of \"" + text + "\"", program[k][what],
                        sieve.instruction(k, what));
            }
        }
        check.same("instruction behind the last of \"" + text + "\"", -1, sieve.instruction(program.length, 0));
    }

    private void sameAnswers(Sieve sieve, String text, Oracle.Condition filter, int[][] program) {
        int[] packet = packet();
        Given.packet(sieve, packet);
        String on = " of \"" + text + "\" on " + java.util.Arrays.toString(packet);
        int verdict = Oracle.holds(filter, packet);
        verdicts[verdict + 1]++;
        check.due("holds()" + on, verdict, sieve::holds);
        int[] state = Oracle.run(program, packet);
        check.same("the document's same answer" + on, verdict == 1 ? Given.SNAP : 0, state[0]);
        check.due("run()" + on, state[0], sieve::run);
        for (int what = 0; what <= 18; what++) {
            check.same("state(" + what + ")" + on, state[what + 1], sieve.state(what));
        }
    }

    private int[] packet() {
        int[] packet = new int[random.nextInt(5) == 0 ? random.nextInt(81) : 40 + random.nextInt(41)];
        int most = random.nextInt(3) == 0 ? 256 : 6;
        for (int i = 0; i < packet.length; i++) {
            packet[i] = random.nextInt(most);
        }
        if (random.nextInt(8) != 0) {
            put(packet, 12, 8);
            put(packet, 13, 0);
        }
        put(packet, 14, 0x40 + (random.nextInt(6) == 0 ? random.nextInt(16) : 5));
        if (random.nextInt(6) != 0) {
            put(packet, 20, random.nextInt(8) << 5);
            put(packet, 21, 0);
        }
        put(packet, 23, pick(6, 6, 6, 17, 17, 17, 1));
        return packet;
    }

    private static void put(int[] packet, int place, int v) {
        if (place < packet.length) {
            packet[place] = v;
        }
    }

    private int pick(int... some) {
        return some[random.nextInt(some.length)];
    }

    private String pick(String... some) {
        return some[random.nextInt(some.length)];
    }

    private String blank() {
        return random.nextInt(4) == 0 ? " " : "";
    }

    private String filter(int depth) {
        StringBuilder made = new StringBuilder(unit(depth));
        for (int i = random.nextInt(3); i > 0; i--) {
            made.append(pick(" and ", " or ")).append(unit(depth));
        }
        return made.toString();
    }

    /** A filter about as long as one can be: by its instructions, or by its cells. */
    private String crowded() {
        StringBuilder made = new StringBuilder();
        if (random.nextBoolean()) {
            made.append(pick("len", "1", "tcp[0]", "udp[len]", "ether[len]", "ip[tcp[2]]"));
            String sign = pick("+", "-", "*", "&", "|");
            for (int i = 13 + random.nextInt(6); i > 0; i--) {
                made.append(sign).append(random.nextInt(20) == 0 ? "1" : "len");
            }
            return made + pick("=", "<") + pick("1", "len", "{len}", "{2}");
        }
        made.append(unit(0));
        for (int i = 9 + random.nextInt(5); i > 0; i--) {
            made.append(pick(" or ", " and ")).append(pick("port 1", "port 2", "dst port 3", "tcp[0]=1", "udp[1]<9", "tcp"));
        }
        return made.toString();
    }

    private String unit(int depth) {
        if (depth > 0 && random.nextInt(3) == 0) {
            return "(" + blank() + filter(depth - 1) + blank() + ")";
        }
        return switch (random.nextInt(9)) {
            case 0 -> "not " + unit(depth);
            case 1 -> pick("ip", "tcp", "udp");
            case 2 -> pick("", "src ", "dst ") + "host " + address();
            case 3 -> pick("", "src ", "dst ") + "net " + address() + blank() + "/" + blank() + random.nextInt(33);
            case 4 -> pick("", "src ", "dst ") + "port" + blank() + pick("0", "1", "2", "257", "258", "515", "65535");
            default -> value(depth) + blank() + pick("=", "!=", "<", ">", "<=", ">=") + blank() + value(depth);
        };
    }

    private String address() {
        return random.nextInt(6) + blank() + "." + random.nextInt(6) + "." + random.nextInt(6) + "." + random.nextInt(256);
    }

    private String value(int depth) {
        StringBuilder made = new StringBuilder(item(depth));
        String[] signs = {"+", "-", "*", "/", "<<", ">>", "&", "|"};
        int more = random.nextInt(20) == 0 ? random.nextInt(24) : random.nextInt(3);
        for (int i = 0; i < more; i++) {
            made.append(blank()).append(pick(signs)).append(blank()).append(more > 3 ? pick("len", "1", "2") : item(depth));
        }
        return made.toString();
    }

    private String item(int depth) {
        if (depth > 0) {
            switch (random.nextInt(3)) {
                case 0:
                    return "{" + value(depth - 1) + "}";
                case 1:
                    return access(value(depth - 1));
                default:
                    break;
            }
        }
        return switch (random.nextInt(5)) {
            case 0 -> "len";
            case 1, 2 -> access(Integer.toString(random.nextInt(30)));
            case 3 -> Long.toString(random.nextLong() & 0xFFFFFFFFL);
            default -> pick("0", "1", "2", "5", "{3}", "{{4}}", "007", "31", "32", "255", "256", "65535", "4294967295");
        };
    }

    private String access(String index) {
        return pick("ether", "ip", "tcp", "udp") + blank() + "[" + index + pick("", "", ":1", ":2", ": 4") + "]";
    }

    /** A text with a piece left out, put in or written again: most are no filters then. */
    private String broken(String text) {
        int from = random.nextInt(text.length());
        int to = Math.min(text.length(), from + random.nextInt(4));
        String piece = pick("", " ", "(", ")", "{", "}", "[", "]", "not ", "and", "or ", "ip", "tcp", "src ", "=", "<", ">", "!",
                ":", ".", "/", "0", "9", "4294967296", "x", "~", text.substring(from, to));
        return text.substring(0, from) + piece + text.substring(random.nextBoolean() ? from : to);
    }
}
