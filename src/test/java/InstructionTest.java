/** Promise 5: instruction, and so the program that a filter has. Each row: operation, two ways, number. */
public final class InstructionTest {
    private static final String PORTS = Given.repeated("port 1", 11, "or ");

    public static void main(String[] args) {
        Check check = new Check();
        primitives(check);
        joints(check);
        relations(check);
        values(check);
        outside(check);
        whatOutside(check);
        bits(check);
        masks(check);
        places(check);
        check.finish();
    }

    private static void program(Check check, String text, String... due) {
        program(check, new Sieve(Given.SNAP), text, due);
        // What the object has compiled before leaves no trace: here, tests in most places.
        Sieve used = new Sieve(Given.SNAP);
        for (String before : new String[] {PORTS, PORTS, PORTS + "or 1+1=1", PORTS + "or 1+1=1"}) {
            Given.type(used, before);
            used.compile();
        }
        program(check, used, text, due);
        program(check, used, text, due);
    }

    private static void program(Check check, Sieve sieve, String text, String... due) {
        Given.type(sieve, text);
        check.due("compile() of \"" + text + "\"", due.length, sieve::compile);
        for (int k = 0; k < due.length; k++) {
            check.same("instruction " + k + " of \"" + text + "\"", due[k], Given.instruction(sieve, k));
        }
    }

    private static void primitives(Check check) {
        check.sentence("THE PROGRAM of a filter (primitives)");
        program(check, "ip", "3 0 0 12", "40 0 1 2048", "60 0 0 1500", "60 0 0 0");
        program(check, "tcp", "3 0 0 12", "40 0 3 2048", "2 0 0 23", "40 0 1 6", "60 0 0 1500", "60 0 0 0");
        program(check, "udp", "3 0 0 12", "40 0 3 2048", "2 0 0 23", "40 0 1 17", "60 0 0 1500", "60 0 0 0");
        program(check, "src host 1.2.3.4",
                "3 0 0 12", "40 0 3 2048", "4 0 0 26", "40 0 1 16909060", "60 0 0 1500", "60 0 0 0");
        program(check, "dst host 255.0.0.1",
                "3 0 0 12", "40 0 3 2048", "4 0 0 30", "40 0 1 -16777215", "60 0 0 1500", "60 0 0 0");
        program(check, "host 1.2.3.4", "3 0 0 12", "40 0 5 2048", "4 0 0 26", "40 2 0 16909060", "4 0 0 30",
                "40 0 1 16909060", "60 0 0 1500", "60 0 0 0");
        program(check, "src net 255.255.255.255/9", "3 0 0 12", "40 0 4 2048", "4 0 0 26", "26 0 0 -8388608",
                "40 0 1 -8388608", "60 0 0 1500", "60 0 0 0");
        program(check, "dst net 1.2.3.4/0", "3 0 0 12", "40 0 4 2048", "4 0 0 30", "26 0 0 0",
                "40 0 1 0", "60 0 0 1500", "60 0 0 0");
        program(check, "net 1.2.3.4/32", "3 0 0 12", "40 0 7 2048", "4 0 0 26", "26 0 0 -1", "40 3 0 16909060",
                "4 0 0 30", "26 0 0 -1", "40 0 1 16909060", "60 0 0 1500", "60 0 0 0");
        program(check, "dst port 53", "3 0 0 12", "40 0 9 2048", "2 0 0 23", "40 1 0 6", "40 0 6 17", "3 0 0 20",
                "43 4 0 8191", "8 0 0 14", "6 0 0 16", "40 0 1 53", "60 0 0 1500", "60 0 0 0");
        program(check, "src port 65535", "3 0 0 12", "40 0 9 2048", "2 0 0 23", "40 1 0 6", "40 0 6 17", "3 0 0 20",
                "43 4 0 8191", "8 0 0 14", "6 0 0 14", "40 0 1 65535", "60 0 0 1500", "60 0 0 0");
        program(check, "port 7", "3 0 0 12", "40 0 11 2048", "2 0 0 23", "40 1 0 6", "40 0 8 17", "3 0 0 20",
                "43 6 0 8191", "8 0 0 14", "6 0 0 14", "40 2 0 7", "6 0 0 16", "40 0 1 7", "60 0 0 1500", "60 0 0 0");
    }

    private static void joints(Check check) {
        check.sentence("a and b, a or b, not a");
        program(check, "not udp", "3 0 0 12", "40 0 2 2048", "2 0 0 23", "40 1 0 17", "60 0 0 1500", "60 0 0 0");
        program(check, "not not ip", "3 0 0 12", "40 0 1 2048", "60 0 0 1500", "60 0 0 0");
        program(check, "ip or len > 5", "3 0 0 12", "40 2 0 2048", "1 0 0 0", "41 0 1 5", "60 0 0 1500", "60 0 0 0");
        program(check, "ip and len > 5", "3 0 0 12", "40 0 3 2048", "1 0 0 0", "41 0 1 5", "60 0 0 1500", "60 0 0 0");
        program(check, "1=2 or 3=4 and 5=6", "0 0 0 1", "40 4 0 2", "0 0 0 3", "40 0 3 4", "0 0 0 5", "40 0 1 6",
                "60 0 0 1500", "60 0 0 0");
        program(check, "(1=2 or 3=4) and 5=6", "0 0 0 1", "40 2 0 2", "0 0 0 3", "40 0 3 4", "0 0 0 5", "40 0 1 6",
                "60 0 0 1500", "60 0 0 0");
        program(check, "not(1=2 and not 3=4) and 5=6", "0 0 0 1", "40 0 2 2", "0 0 0 3", "40 0 3 4", "0 0 0 5",
                "40 0 1 6", "60 0 0 1500", "60 0 0 0");
        program(check, "not src host 0.0.0.1 or ip", "3 0 0 12", "40 0 4 2048", "4 0 0 26", "40 0 2 1", "3 0 0 12",
                "40 0 1 2048", "60 0 0 1500", "60 0 0 0");
    }

    private static void relations(Check check) {
        check.sentence("A relation");
        program(check, "len=7", "1 0 0 0", "40 0 1 7", "60 0 0 1500", "60 0 0 0");
        program(check, "len!=7", "1 0 0 0", "40 1 0 7", "60 0 0 1500", "60 0 0 0");
        program(check, "len>{7}", "1 0 0 0", "41 0 1 7", "60 0 0 1500", "60 0 0 0");
        program(check, "len<={{7}}", "1 0 0 0", "41 1 0 7", "60 0 0 1500", "60 0 0 0");
        program(check, "len>=7", "1 0 0 0", "42 0 1 7", "60 0 0 1500", "60 0 0 0");
        program(check, "len<4294967295", "1 0 0 0", "42 1 0 -1", "60 0 0 1500", "60 0 0 0");
        String[] signs = {"=", "!=", ">", "<=", ">=", "<"};
        String[] tests = {"50 0 1 0", "50 1 0 0", "51 0 1 0", "51 1 0 0", "52 0 1 0", "52 1 0 0"};
        for (int i = 0; i < signs.length; i++) {
            program(check, "3" + signs[i] + "len", "1 0 0 0", "11 0 0 0", "0 0 0 3", "10 0 0 0", tests[i],
                    "60 0 0 1500", "60 0 0 0");
        }
        program(check, "ip[0]!=5", "3 0 0 12", "40 0 3 2048", "2 0 0 14", "40 1 0 5", "60 0 0 1500", "60 0 0 0");
        program(check, "udp[0]+tcp[ip[1]]=0",
                "3 0 0 12", "40 0 31 2048",
                "3 0 0 12", "40 0 29 2048", "2 0 0 23", "40 0 27 6", "3 0 0 20", "43 25 0 8191",
                "3 0 0 12", "40 0 23 2048", "2 0 0 23", "40 0 21 17", "3 0 0 20", "43 19 0 8191",
                "2 0 0 15", "11 0 0 0", "8 0 0 14", "9 0 0 0", "30 0 0 0", "12 0 0 0", "5 0 0 14", "11 0 0 0",
                "0 0 0 0", "11 0 0 1", "8 0 0 14", "9 0 0 1", "30 0 0 0", "12 0 0 0", "5 0 0 14",
                "10 0 0 0", "30 0 0 0", "40 0 1 0", "60 0 0 1500", "60 0 0 0");
    }

    private static void values(Check check) {
        check.sentence("VALUE d");
        program(check, "ether[3]=1", "2 0 0 3", "40 0 1 1", "60 0 0 1500", "60 0 0 0");
        program(check, "ether[{3}:2]=1", "3 0 0 3", "40 0 1 1", "60 0 0 1500", "60 0 0 0");
        program(check, "ether[4294967295:4]=1", "4 0 0 -1", "40 0 1 1", "60 0 0 1500", "60 0 0 0");
        program(check, "ip[4294967295:2]=1", "3 0 0 12", "40 0 3 2048", "3 0 0 13", "40 0 1 1",
                "60 0 0 1500", "60 0 0 0");
        program(check, "ether[len:2]=1", "1 0 0 0", "12 0 0 0", "6 0 0 0", "40 0 1 1", "60 0 0 1500", "60 0 0 0");
        program(check, "ip[1+2:4]=1", "3 0 0 12", "40 0 6 2048", "0 0 0 1", "20 0 0 2", "12 0 0 0", "7 0 0 14",
                "40 0 1 1", "60 0 0 1500", "60 0 0 0");
        program(check, "tcp[{2}:2]*len=1", "3 0 0 12", "40 0 17 2048", "2 0 0 23", "40 0 15 6", "3 0 0 20",
                "43 13 0 8191", "1 0 0 0", "11 0 0 0", "0 0 0 2", "11 0 0 1", "8 0 0 14", "9 0 0 1", "30 0 0 0",
                "12 0 0 0", "6 0 0 14", "10 0 0 0", "32 0 0 0", "40 0 1 1", "60 0 0 1500", "60 0 0 0");
        program(check, "len+1-2*3/4=0", "0 0 0 2", "22 0 0 3", "23 0 0 4", "11 0 0 0", "1 0 0 0", "20 0 0 1",
                "10 0 0 0", "31 0 0 0", "40 0 1 0", "60 0 0 1500", "60 0 0 0");
        program(check, "len+1-2<<5>>6&7|8=0", "1 0 0 0", "20 0 0 1", "21 0 0 2", "24 0 0 5",
                "25 0 0 6", "26 0 0 7", "27 0 0 8", "40 0 1 0", "60 0 0 1500", "60 0 0 0");
        String[] signs = {"+", "-", "*", "/", "<<", ">>", "&", "|"};
        for (int o = 0; o < signs.length; o++) {
            program(check, "len" + signs[o] + "{9}=0", "1 0 0 0", (20 + o) + " 0 0 9", "40 0 1 0",
                    "60 0 0 1500", "60 0 0 0");
            program(check, "9" + signs[o] + "len=0", "1 0 0 0", "11 0 0 0", "0 0 0 9", "10 0 0 0", (30 + o) + " 0 0 0",
                    "40 0 1 0", "60 0 0 1500", "60 0 0 0");
        }
        program(check, "1=len-len-len", "1 0 0 0", "11 0 0 0", "1 0 0 0", "11 0 0 1", "1 0 0 0", "10 0 0 1", "31 0 0 0",
                "10 0 0 0", "31 0 0 0", "11 0 0 0", "0 0 0 1", "10 0 0 0", "50 0 1 0", "60 0 0 1500", "60 0 0 0");
        program(check, "len-{len-len}=1", "1 0 0 0", "11 0 0 0", "1 0 0 0", "10 0 0 0", "31 0 0 0", "11 0 0 0",
                "1 0 0 0", "10 0 0 0", "31 0 0 0", "40 0 1 1", "60 0 0 1500", "60 0 0 0");
    }

    private static void outside(Check check) {
        check.sentence("-1 when there is none");
        Sieve sieve = Given.compiled("ip");
        for (int what = 0; what <= 3; what++) {
            int asked = what;
            for (int k : new int[] {-1, -2, 4, 5, 149, 150, 151, Integer.MIN_VALUE, Integer.MIN_VALUE + 1, Integer.MAX_VALUE}) {
                check.due("instruction(" + k + ", " + what + ")", -1, () -> sieve.instruction(k, asked));
            }
        }
        check.due("instruction(0, 0), the first one", 3, () -> sieve.instruction(0, 0));
        check.due("instruction(3, 0), the last one", 60, () -> sieve.instruction(3, 0));
        Given.type(sieve, "tcp");
        check.due("instruction(4, 0) ahead of compile()", -1, () -> sieve.instruction(4, 0));
        sieve.compile();
        check.due("instruction(4, 0) behind it", 60, () -> sieve.instruction(4, 0));
        Given.type(sieve, "ip");
        sieve.compile();
        check.due("instruction(4, 0) of a shorter program", -1, () -> sieve.instruction(4, 0));
        Sieve none = Given.typed("ip or");
        check.due("instruction(0, 0) of a text", -1, () -> none.instruction(0, 0));
        Check.answer(none::compile);
        check.due("instruction(0, 0) behind a refused text", -1, () -> none.instruction(0, 0));
    }

    private static void whatOutside(Check check) {
        check.sentence("-1 when what is not 0 .. 3");
        Sieve sieve = Given.compiled("not 1=2");
        for (int k = 0; k < 4; k++) {
            int asked = k;
            for (int what : new int[] {-1, -2, 4, 5, 256, Integer.MIN_VALUE, Integer.MAX_VALUE}) {
                check.due("instruction(" + k + ", " + what + ")", -1, () -> sieve.instruction(asked, what));
            }
        }
        check.due("instruction(1, 0)", 40, () -> sieve.instruction(1, 0));
        check.due("instruction(1, 3)", 2, () -> sieve.instruction(1, 3));
        check.due("instruction(-1, -1)", -1, () -> sieve.instruction(-1, -1));
    }

    private static void bits(Check check) {
        check.sentence("3 its number (as an int with these 32 bits)");
        String[] numbers = {"0", "1", "2147483647", "2147483648", "2147483649", "4294967294", "4294967295"};
        int[] dues = {0, 1, Integer.MAX_VALUE, Integer.MIN_VALUE, Integer.MIN_VALUE + 1, -2, -1};
        for (int i = 0; i < numbers.length; i++) {
            Sieve sieve = Given.compiled(numbers[i] + "+" + numbers[i] + ">" + numbers[i]);
            for (int k = 0; k < 3; k++) {
                int asked = k;
                check.due("instruction(" + k + ", 3) of " + numbers[i], dues[i], () -> sieve.instruction(asked, 3));
            }
            Sieve place = Given.compiled("ether[" + numbers[i] + "]=1");
            check.due("instruction(0, 3) of ether[" + numbers[i] + "]", dues[i], () -> place.instruction(0, 3));
        }
        Sieve host = Given.compiled("host 255.255.255.255 or src net 128.0.0.0/1");
        check.due("the number of an address", -1, () -> host.instruction(3, 3));
        check.due("the number of a mask", Integer.MIN_VALUE, () -> host.instruction(9, 3));
        check.due("the number of a net", Integer.MIN_VALUE, () -> host.instruction(10, 3));
    }

    private static void masks(Check check) {
        check.sentence("the MASK (n bits that are 1, from the highest on); 40 with the address & the mask");
        for (int n = 0; n <= 32; n++) {
            StringBuilder bits = new StringBuilder();
            for (int i = 0; i < 32; i++) {
                bits.append(i < n ? '1' : '0');
            }
            int mask = (int) Long.parseLong(bits.toString(), 2);
            Sieve sieve = Given.compiled("net 255.254.253.252/" + n);
            for (int k = 3; k <= 6; k += 3) {
                check.same("the mask of /" + n, "26 0 0 " + mask, Given.instruction(sieve, k));
                String ways = k == 3 ? "3 0 " : "0 1 ";
                check.same("the test of /" + n, "40 " + ways + (0xFFFEFDFC & mask), Given.instruction(sieve, k + 1));
            }
        }
    }

    private static void places(Check check) {
        check.sentence("2, 3 or 4 with that and 14 for ip (32 bits)");
        String[] indexes = {"0", "1", "66", "2147483633", "2147483634", "4294967281", "4294967282", "4294967283", "4294967295"};
        int[] dues = {14, 15, 80, Integer.MAX_VALUE, Integer.MIN_VALUE, -1, 0, 1, 13};
        for (int i = 0; i < indexes.length; i++) {
            for (int size = 1; size <= 4; size *= 2) {
                Sieve sieve = Given.compiled("ip[" + indexes[i] + ":" + size + "]=1");
                int operation = size == 4 ? 4 : 1 + size;
                check.same("ip[" + indexes[i] + ":" + size + "]", operation + " 0 0 " + dues[i], Given.instruction(sieve, 2));
            }
        }
    }
}
