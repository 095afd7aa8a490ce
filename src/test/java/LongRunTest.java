import java.util.Arrays;
import java.util.Random;

/** One object through its 512 calls: texts that compile and texts that don't, over one packet after the other. */
public final class LongRunTest {
    /** What one round may need: 20 to type, 8 to put, 6 to ask, and cut, compile and clear. */
    private static final int ROUND = 40;
    private static final int OBJECTS = 300;
    private static final String[] TEXTS = {
        "tcp and port 80", "(((((((udp[{len-len}+2:2]", "not src host 1.2.3.4 or dst net 5.6.0.0/15", "((ip",
        "udp[{len-len}+2:2]*2 > ether[12]|ip[0]/4", Given.repeated("port 1", 15, " or "), "ip[0]/0=1 or ip", "1+1+1+",
        Given.repeated("len", 17, "+") + "=1", Given.repeated("len", 18, "+") + "=1", "len",
        Given.repeated("1", 79, "+") + "=1", Given.repeated("1=2", 31, "or") + "or 1=1", "{{{{{{{{{1", "ip", "1=1",
        Given.repeated("not", 39, " ") + " ip", "((((((((ip[{len}-14+0]=1or udp))))))))", "{{{{{{{{len}}}}}}}}>9",
    };

    private final Check check;
    private final Random random;
    private final Sieve sieve = new Sieve(Given.SNAP);
    private Oracle.Condition filter;
    private int[][] program;

    private LongRunTest(Check check, int seed) {
        this.check = check;
        random = new Random(seed);
    }

    public static void main(String[] args) {
        Check check = new Check();
        for (int seed = 0; seed < OBJECTS && check.isAllRight(); seed++) {
            LongRunTest run = new LongRunTest(check, seed);
            while (run.sieve.calls() <= Sieve.MOST_CALLS - ROUND && check.isAllRight()) {
                run.compile(TEXTS[run.random.nextInt(TEXTS.length)]);
                run.ask(run.put());
            }
        }
        manyRefusals(check);
        check.finish();
    }

    private void compile(String text) {
        Given.type(sieve, text);
        Object due;
        try {
            Oracle.Condition parsed = Oracle.parse(text);
            program = Oracle.program(parsed, Given.SNAP);
            filter = parsed;
            due = program.length;
        } catch (Oracle.NoFilter e) {
            due = Given.BAD;
        } catch (Oracle.TooLong e) {
            due = Given.TOO_LONG;
        }
        check.due("compile() of \"" + text + "\"", due, sieve::compile);
        check.due("clear() behind it", due instanceof Integer ? 0 : text.length(), sieve::clear);
    }

    /** Cuts the packet somewhere within what is known to be zeros, and puts a new one there. */
    private int[] put() {
        int[] packet = Arrays.copyOf(Given.ip(random.nextInt(2) == 0 ? 6 : 17, 4 + random.nextInt(4)), 1 + random.nextInt(60));
        int from = Math.min(random.nextInt(12), packet.length);
        if (sieve.cut(from) < 0) {
            from = 0;
            sieve.cut(0);
        }
        for (int i = from; i < packet.length; i += 8) {
            int[] eight = Arrays.copyOfRange(packet, i, Math.min(i + 8, packet.length));
            int due = i + eight.length;
            check.due("put of " + eight.length, due, () -> sieve.put(Given.packed(eight), eight.length));
        }
        return packet;
    }

    private void ask(int[] packet) {
        if (filter == null) {
            check.due("holds() without a filter", Given.EARLY, sieve::holds);
            check.due("run() without a filter", Given.EARLY, sieve::run);
            return;
        }
        int[] state = Oracle.run(program, packet);
        check.due("holds()", Oracle.holds(filter, packet), sieve::holds);
        check.due("run()", state[0], sieve::run);
        for (int what = 0; what < 4; what++) {
            int asked = what;
            check.due("state(" + what + ")", state[what + 1], () -> sieve.state(asked));
        }
    }

    /** The dearest run of calls: a full text, refused again and again. */
    private static void manyRefusals(Check check) {
        String sum = Given.repeated("1", 79, "+") + "=1";
        for (String text : new String[] {sum + "=", Given.repeated("(", 160, ""), Given.repeated("port 1", 15, " or ")}) {
            Sieve sieve = Given.typed(text);
            Object due = text.startsWith("port") ? Given.TOO_LONG : Given.BAD;
            while (sieve.calls() < Sieve.MOST_CALLS - 1) {
                check.due("compile() of \"" + text + "\"", due, sieve::compile);
            }
            check.due("clear() behind them", text.length(), sieve::clear);
        }
    }
}
