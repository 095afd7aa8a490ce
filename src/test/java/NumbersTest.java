/** Promises 9 and 10, with the words under "Terms": numbers, sums and comparisons of 32 bits. */
public final class NumbersTest {
    private static final String TOP = "4294967295";
    private static final String HALF = "2147483648";

    private final Check check = new Check();
    private final Verdict verdict = new Verdict(check);

    public static void main(String[] args) {
        new NumbersTest().test();
    }

    private void test() {
        sums();
        differences();
        products();
        quotients();
        quotientsByZero();
        shiftsLeft();
        shiftsRight();
        bits();
        strength();
        toTheLeft();
        comparisons();
        length();
        check.finish();
    }

    private static void put(int[] packet, int place, String number) {
        long n = Long.parseLong(number);
        for (int i = 0; i < 4; i++) {
            packet[place + i] = (int) (n >> 24 - 8 * i) & 255;
        }
    }

    /** Both numbers written, or one or both of them in the packet: by each of the machine's two forms. */
    private void gives(String a, String sign, String b, String due) {
        int[] packet = new int[12];
        put(packet, 0, a);
        put(packet, 4, b);
        put(packet, 8, due);
        for (String left : new String[] {a, "ether[0:4]"}) {
            for (String right : new String[] {b, "{{" + b + "}}", "ether[4:4]", "{len-len}+" + b, "{" + b + "-0}"}) {
                String text = right.contains("+") ? left + sign + "{" + right + "}" : left + sign + right;
                verdict.eachSays(packet, 1, text + "=" + due, text + "=ether[8:4]", due + "=" + text);
                verdict.says(text + "!=" + due, packet, 0);
            }
        }
        Sieve sieve = Given.compiled(a + sign + b + "=0", packet);
        sieve.run();
        check.due("state(1) of " + a + sign + b, (int) Long.parseLong(due), () -> sieve.state(1));
    }

    private void sums() {
        check.sentence("sums keep the lowest 32 bits");
        gives("1", "+", "2", "3");
        gives("0", "+", "0", "0");
        gives(TOP, "+", "0", TOP);
        gives(TOP, "+", "1", "0");
        gives("1", "+", TOP, "0");
        gives("2", "+", TOP, "1");
        gives(TOP, "+", TOP, "4294967294");
        gives(HALF, "+", HALF, "0");
        gives(HALF, "+", "2147483647", TOP);
        gives("2147483647", "+", "1", HALF);
    }

    private void differences() {
        check.sentence("differences keep the lowest 32 bits");
        gives("3", "-", "2", "1");
        gives("2", "-", "2", "0");
        gives("0", "-", "1", TOP);
        gives("1", "-", "3", "4294967294");
        gives("0", "-", TOP, "1");
        gives("0", "-", HALF, HALF);
        gives(TOP, "-", TOP, "0");
        gives(TOP, "-", "0", TOP);
        gives("1", "-", HALF, "2147483649");
    }

    private void products() {
        check.sentence("products keep the lowest 32 bits");
        gives("6", "*", "7", "42");
        gives("0", "*", TOP, "0");
        gives("1", "*", TOP, TOP);
        gives("2", "*", TOP, "4294967294");
        gives(TOP, "*", TOP, "1");
        gives("65536", "*", "65536", "0");
        gives("65536", "*", "65537", "65536");
        gives("65535", "*", "65537", TOP);
        gives(HALF, "*", "2", "0");
        gives(HALF, "*", "3", HALF);
        gives("3000000000", "*", "4000000000", "3635412992");
    }

    private void quotients() {
        check.sentence("Numbers have 32 bits, without sign (/)");
        gives("7", "/", "2", "3");
        gives("0", "/", "5", "0");
        gives("5", "/", "5", "1");
        gives("4", "/", "5", "0");
        gives(TOP, "/", "1", TOP);
        gives(TOP, "/", "2", "2147483647");
        gives(TOP, "/", TOP, "1");
        gives("4294967294", "/", TOP, "0");
        gives(TOP, "/", "4294967294", "1");
        gives(HALF, "/", TOP, "0");
        gives(HALF, "/", "2", "1073741824");
        gives("1", "/", TOP, "0");
        gives(TOP, "/", HALF, "1");
    }

    private void quotientsByZero() {
        check.sentence("a / by 0 REJECTS the packet");
        int[] packet = new int[60];
        verdict.eachSays(packet, -1, "1/0=0", "0/0=0", TOP + "/0=0", "1/0!=0", "1/0>0", "1/0<1", "1/0>=0", "1/0<=0", "0=1/0", "len/0=60",
                "1/{0}=0", "1/{{0}}=0", "1/000=0", "1/{len-len}=0", "1/{len-60}=0", "1/ether[0]=0", "0/ether[0:4]=0", "1/{65536*65536}=0",
                "1/{1<<32}=0", "1/{1>>1}=0", "1/{" + TOP + "+1}=0", "1/{1&2}=0", "1/{1/2}=0", "1/{0*7}=0", "1/{0/7}=0", "ether[1/0]=0",
                "ether[0/{len-len}]=0", "1={1/0}", "1+1/0=1", "1/0+1=1", "0*{1/0}=0", "1/0*0=0", "1/0/0=0", "1&1/0=0", "len=len/0",
                "{1/0}=1/0");
        verdict.eachSays(packet, 1, "0/1=0", "1/{len-59}=1", "1/{ether[0]+1}=1", "1/" + TOP + "=0", "7/{len-len+1}=7", "0/len=0");
    }

    private void shiftsLeft() {
        check.sentence("<< by 32 or more gives 0");
        gives("1", "<<", "0", "1");
        gives("5", "<<", "1", "10");
        gives("1", "<<", "31", HALF);
        gives("3", "<<", "31", HALF);
        gives(TOP, "<<", "1", "4294967294");
        gives(TOP, "<<", "16", "4294901760");
        for (String by : new String[] {"32", "33", "34", "63", "64", "65", "95", "96", "127", "128", "255", "256", "2147483647", HALF, "2147483649",
            "4294967264", "4294967294", TOP}) {
            gives(TOP, "<<", by, "0");
        }
        gives("0", "<<", "31", "0");
        gives("0", "<<", "32", "0");
    }

    private void shiftsRight() {
        check.sentence(">> by 32 or more gives 0");
        gives("1", ">>", "0", "1");
        gives("5", ">>", "1", "2");
        gives(HALF, ">>", "31", "1");
        gives(HALF, ">>", "1", "1073741824");
        gives(TOP, ">>", "31", "1");
        gives(TOP, ">>", "16", "65535");
        gives(TOP, ">>", "0", TOP);
        for (String by : new String[] {"32", "33", "34", "63", "64", "65", "95", "96", "127", "128", "255", "256", "2147483647", HALF, "2147483649",
            "4294967264", "4294967294", TOP}) {
            gives(TOP, ">>", by, "0");
        }
        gives("0", ">>", "31", "0");
    }

    private void bits() {
        check.sentence("Numbers have 32 bits, without sign (&, |)");
        gives("12", "&", "10", "8");
        gives(TOP, "&", HALF, HALF);
        gives(TOP, "&", TOP, TOP);
        gives(TOP, "&", "0", "0");
        gives("2147483647", "&", HALF, "0");
        gives("12", "|", "10", "14");
        gives("0", "|", TOP, TOP);
        gives("2147483647", "|", HALF, TOP);
        gives("0", "|", "0", "0");
        gives(HALF, "|", HALF, HALF);
    }

    private void strength() {
        check.sentence("signs which bind, the strongest first: * /, then + -, then << >>, then &, then |");
        int[] packet = new int[9];
        verdict.eachSays(packet, 1, "1+2*3=7", "2*3+1=7", "7-2*3=1", "1+7/2=4", "7/2+1=4", "9-8/4=7", "{1+2}*3=9", "2*{3+1}=8", "7/{1+2}=2");
        verdict.eachSays(packet, 1, "1<<2+1=8", "1+2<<1=6", "64>>2+1=8", "5-1>>1=2", "1<<2*2=16", "2*3<<1=12", "64>>4/2=16", "{1<<2}+1=5",
                "16-{8>>2}=14", "1<<3-1=4");
        verdict.eachSays(packet, 1, "7&1<<1=2", "1<<1&7=2", "6&12>>1=6", "3&2+1=3", "2+1&3=3", "6&2*3=6", "12/2&4=4", "{7&1}<<1=2", "3&{1+1}=2",
                "{3&2}+2=4");
        verdict.eachSays(packet, 1, "8|6&3=10", "6&3|8=10", "1|2<<1=5", "1<<1|1=3", "1|1+1=3", "1+1|1=3", "4|2*3=6", "8/2|1=5", "{8|6}&3=2",
                "6&{3|8}=2", "{1|2}<<1=6", "1|64>>5=3");
        verdict.eachSays(packet, 1, "1|2&3<<4+5*6=1", "6*5+4<<3&2|1=1", "len+len*len=90", "len*len-len=72", "len|len&0=9", "len&len<<1=0",
                "len<<len-8=18", "len-len/len=8");
    }

    private void toTheLeft() {
        check.sentence("they group to the left");
        int[] packet = new int[9];
        verdict.eachSays(packet, 1, "10-3-2=5", "10-{3-2}=9", "10-3+2=9", "10-{3+2}=5", "100/5/2=10", "100/{5/2}=50", "7/2*2=6", "2*7/2=7",
                "7/{2*2}=1", "256>>4>>2=4", "256>>{4>>2}=128", "1<<4>>2=4", "1>>2<<4=0", "1<<{4>>2}=2", "1<<1<<2=8", "5-4-3-2=4294967292",
                "len-len-len=4294967287", "len-{len-len}=9", "len/len/len=0", "81/len/len=1", "81/{len/len}=81", "len-1-len=4294967295");
    }

    private void comparisons() {
        check.sentence("Numbers have 32 bits, without sign (then the values are compared)");
        String[] signs = {"=", "!=", "<", ">", "<=", ">="};
        String[] numbers = {"0", "1", "6", "7", "8", "255", "256", "65536", "2147483647", HALF, "2147483649", "4294967294", TOP};
        for (String a : numbers) {
            for (String b : numbers) {
                int compared = Long.compare(Long.parseLong(a), Long.parseLong(b));
                boolean[] dues = {compared == 0, compared != 0, compared < 0, compared > 0, compared <= 0, compared >= 0};
                int[] packet = new int[8];
                put(packet, 0, a);
                put(packet, 4, b);
                for (int i = 0; i < signs.length; i++) {
                    verdict.eachSays(packet, dues[i] ? 1 : 0, a + signs[i] + b, "ether[0:4]" + signs[i] + b,
                            a + signs[i] + "ether[4:4]", "ether[0:4]" + signs[i] + "ether[4:4]");
                    verdict.says("not ether[0:4]" + signs[i] + "ether[4:4]", packet, dues[i] ? 0 : 1);
                }
            }
        }
    }

    private void length() {
        check.sentence("len is how many bytes the packet has");
        for (int n = 0; n <= 80; n++) {
            verdict.says("len=" + n, new int[n], 1);
            verdict.says("len=" + (n + 1), new int[n], 0);
            verdict.says("len-" + n + "!=0", new int[n], 0);
        }
    }
}
