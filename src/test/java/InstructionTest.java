/** Promise 5: instruction, and so the program that a filter has. Each row: operation, two ways, number. */
public final class InstructionTest {
    private static final String PORTS = Given.repeated("port 1", 11, "or ");

    public static void main(String[] args) {
        Check check = new Check();
        primitives(check);
        joints(check);
        relations(check);
        values(check);
        outside(check);
        check.finish();
    }

    private static void program(Check check, String text, String... due) {
        program(check, new PacketSieve(Given.SNAP), text, due);
        // What the object has compiled before leaves no trace: here, tests in most places.
        PacketSieve used = new PacketSieve(Given.SNAP);
        for (String before : new String[] {PORTS, PORTS, PORTS + "or 1+1=1", PORTS + "or 1+1=1"}) {
            Given.type(used, before);
            used.compile();
        }
        program(check, used, text, due);
        program(check, used, text, due);
    }

    private static void program(Check check, PacketSieve sieve, String text, String... due) {
        Given.type(sieve, text);
        check.due("compile() of \"" + text + "\"", due.length, sieve::compile);
        for (int k = 0; k < due.length; k++) {
            StringBuilder row = new StringBuilder();
            for (int what = 0; what < 4; what++) {
                row.append(what == 0 ? "" : " ").append(sieve.instruction(k, what));
            }
            check.same("instruction " + k + " of \"" + text + "\"", due[k], row.toString());
        }
    }

    private static void primitives(Check check) {
        program(check, "ip", "3 0 0 12", "40 0 1 2048", "60 0 0 1500", "60 0 0 0");
        program(check, "tcp", "3 0 0 12", "40 0 3 2048", "2 0 0 23", "40 0 1 6", "60 0 0 1500", "60 0 0 0");
        program(check, "udp", "3 0 0 12", "40 0 3 2048", "2 0 0 23", "40 0 1 17", "60 0 0 1500", "60 0 0 0");
        program(check, "src host 1.2.3.4",
                "3 0 0 12", "40 0 3 2048", "4 0 0 26", "40 0 1 16909060", "60 0 0 1500", "60 0 0 0");
        program(check, "dst host 255.0.0.1",
                "3 0 0 12", "40 0 3 2048", "4 0 0 30", "40 0 1 -16777215", "60 0 0 1500", "60 0 0 0");
        program(check, "host 1.2.3.4", "3 0 0 12", "40 0 5 2048", "4 0 0 26", "40 2 0 16909060", "4 0 0 30",
                "40 0 1 16909060", "60 0 0 1500", "60 0 0 0");
        program(check, "src net 255.255.255.255/9", "3 0 0 12", "40 0 4 2048", "4 0 0 26", "26 0 0 -8388608",
                "40 0 1 -8388608", "60 0 0 1500", "60 0 0 0");
        program(check, "dst net 1.2.3.4/0", "3 0 0 12", "40 0 4 2048", "4 0 0 30", "26 0 0 0",
                "40 0 1 0", "60 0 0 1500", "60 0 0 0");
        program(check, "net 1.2.3.4/32", "3 0 0 12", "40 0 7 2048", "4 0 0 26", "26 0 0 -1", "40 3 0 16909060",
                "4 0 0 30", "26 0 0 -1", "40 0 1 16909060", "60 0 0 1500", "60 0 0 0");
        program(check, "dst port 53", "3 0 0 12", "40 0 9 2048", "2 0 0 23", "40 1 0 6", "40 0 6 17", "3 0 0 20",
                "43 4 0 8191", "8 0 0 14", "6 0 0 16", "40 0 1 53", "60 0 0 1500", "60 0 0 0");
        program(check, "src port 65535", "3 0 0 12", "40 0 9 2048", "2 0 0 23", "40 1 0 6", "40 0 6 17", "3 0 0 20",
                "43 4 0 8191", "8 0 0 14", "6 0 0 14", "40 0 1 65535", "60 0 0 1500", "60 0 0 0");
        program(check, "port 7", "3 0 0 12", "40 0 11 2048", "2 0 0 23", "40 1 0 6", "40 0 8 17", "3 0 0 20",
                "43 6 0 8191", "8 0 0 14", "6 0 0 14", "40 2 0 7", "6 0 0 16", "40 0 1 7", "60 0 0 1500", "60 0 0 0");
    }

    private static void joints(Check check) {
        program(check, "not udp", "3 0 0 12", "40 0 2 2048", "2 0 0 23", "40 1 0 17", "60 0 0 1500", "60 0 0 0");
        program(check, "not not ip", "3 0 0 12", "40 0 1 2048", "60 0 0 1500", "60 0 0 0");
        program(check, "ip or len > 5", "3 0 0 12", "40 2 0 2048", "1 0 0 0", "41 0 1 5", "60 0 0 1500", "60 0 0 0");
        program(check, "ip and len > 5", "3 0 0 12", "40 0 3 2048", "1 0 0 0", "41 0 1 5", "60 0 0 1500", "60 0 0 0");
        program(check, "1=2 or 3=4 and 5=6", "0 0 0 1", "40 4 0 2", "0 0 0 3", "40 0 3 4", "0 0 0 5", "40 0 1 6",
                "60 0 0 1500", "60 0 0 0");
        program(check, "(1=2 or 3=4) and 5=6", "0 0 0 1", "40 2 0 2", "0 0 0 3", "40 0 3 4", "0 0 0 5", "40 0 1 6",
                "60 0 0 1500", "60 0 0 0");
        program(check, "not(1=2 and not 3=4) and 5=6", "0 0 0 1", "40 0 2 2", "0 0 0 3", "40 0 3 4", "0 0 0 5",
                "40 0 1 6", "60 0 0 1500", "60 0 0 0");
        program(check, "not src host 0.0.0.1 or ip", "3 0 0 12", "40 0 4 2048", "4 0 0 26", "40 0 2 1", "3 0 0 12",
                "40 0 1 2048", "60 0 0 1500", "60 0 0 0");
    }

    private static void relations(Check check) {
        program(check, "len=7", "1 0 0 0", "40 0 1 7", "60 0 0 1500", "60 0 0 0");
        program(check, "len!=7", "1 0 0 0", "40 1 0 7", "60 0 0 1500", "60 0 0 0");
        program(check, "len>{7}", "1 0 0 0", "41 0 1 7", "60 0 0 1500", "60 0 0 0");
        program(check, "len<={{7}}", "1 0 0 0", "41 1 0 7", "60 0 0 1500", "60 0 0 0");
        program(check, "len>=7", "1 0 0 0", "42 0 1 7", "60 0 0 1500", "60 0 0 0");
        program(check, "len<4294967295", "1 0 0 0", "42 1 0 -1", "60 0 0 1500", "60 0 0 0");
        String[] signs = {"=", "!=", ">", "<=", ">=", "<"};
        String[] tests = {"50 0 1 0", "50 1 0 0", "51 0 1 0", "51 1 0 0", "52 0 1 0", "52 1 0 0"};
        for (int i = 0; i < signs.length; i++) {
            program(check, "3" + signs[i] + "len", "1 0 0 0", "11 0 0 0", "0 0 0 3", "10 0 0 0", tests[i],
                    "60 0 0 1500", "60 0 0 0");
        }
        program(check, "ip[0]!=5", "3 0 0 12", "40 0 3 2048", "2 0 0 14", "40 1 0 5", "60 0 0 1500", "60 0 0 0");
        program(check, "udp[0]+tcp[ip[1]]=0",
                "3 0 0 12", "40 0 31 2048",
                "3 0 0 12", "40 0 29 2048", "2 0 0 23", "40 0 27 6", "3 0 0 20", "43 25 0 8191",
                "3 0 0 12", "40 0 23 2048", "2 0 0 23", "40 0 21 17", "3 0 0 20", "43 19 0 8191",
                "2 0 0 15", "11 0 0 0", "8 0 0 14", "9 0 0 0", "30 0 0 0", "12 0 0 0", "5 0 0 14", "11 0 0 0",
                "0 0 0 0", "11 0 0 1", "8 0 0 14", "9 0 0 1", "30 0 0 0", "12 0 0 0", "5 0 0 14",
                "10 0 0 0", "30 0 0 0", "40 0 1 0", "60 0 0 1500", "60 0 0 0");
    }

    private static void values(Check check) {
        program(check, "ether[3]=1", "2 0 0 3", "40 0 1 1", "60 0 0 1500", "60 0 0 0");
        program(check, "ether[{3}:2]=1", "3 0 0 3", "40 0 1 1", "60 0 0 1500", "60 0 0 0");
        program(check, "ether[4294967295:4]=1", "4 0 0 -1", "40 0 1 1", "60 0 0 1500", "60 0 0 0");
        program(check, "ip[4294967295:2]=1", "3 0 0 12", "40 0 3 2048", "3 0 0 13", "40 0 1 1",
                "60 0 0 1500", "60 0 0 0");
        program(check, "ether[len:2]=1", "1 0 0 0", "12 0 0 0", "6 0 0 0", "40 0 1 1", "60 0 0 1500", "60 0 0 0");
        program(check, "ip[1+2:4]=1", "3 0 0 12", "40 0 6 2048", "0 0 0 1", "20 0 0 2", "12 0 0 0", "7 0 0 14",
                "40 0 1 1", "60 0 0 1500", "60 0 0 0");
        program(check, "tcp[{2}:2]*len=1", "3 0 0 12", "40 0 17 2048", "2 0 0 23", "40 0 15 6", "3 0 0 20",
                "43 13 0 8191", "1 0 0 0", "11 0 0 0", "0 0 0 2", "11 0 0 1", "8 0 0 14", "9 0 0 1", "30 0 0 0",
                "12 0 0 0", "6 0 0 14", "10 0 0 0", "32 0 0 0", "40 0 1 1", "60 0 0 1500", "60 0 0 0");
        program(check, "len+1-2*3/4=0", "0 0 0 2", "22 0 0 3", "23 0 0 4", "11 0 0 0", "1 0 0 0", "20 0 0 1",
                "10 0 0 0", "31 0 0 0", "40 0 1 0", "60 0 0 1500", "60 0 0 0");
        program(check, "len+1-2<<5>>6&7|8=0", "1 0 0 0", "20 0 0 1", "21 0 0 2", "24 0 0 5",
                "25 0 0 6", "26 0 0 7", "27 0 0 8", "40 0 1 0", "60 0 0 1500", "60 0 0 0");
        String[] signs = {"+", "-", "*", "/", "<<", ">>", "&", "|"};
        for (int o = 0; o < signs.length; o++) {
            program(check, "len" + signs[o] + "{9}=0", "1 0 0 0", (20 + o) + " 0 0 9", "40 0 1 0",
                    "60 0 0 1500", "60 0 0 0");
            program(check, "9" + signs[o] + "len=0", "1 0 0 0", "11 0 0 0", "0 0 0 9", "10 0 0 0", (30 + o) + " 0 0 0",
                    "40 0 1 0", "60 0 0 1500", "60 0 0 0");
        }
        program(check, "1=len-len-len", "1 0 0 0", "11 0 0 0", "1 0 0 0", "11 0 0 1", "1 0 0 0", "10 0 0 1", "31 0 0 0",
                "10 0 0 0", "31 0 0 0", "11 0 0 0", "0 0 0 1", "10 0 0 0", "50 0 1 0", "60 0 0 1500", "60 0 0 0");
        program(check, "len-{len-len}=1", "1 0 0 0", "11 0 0 0", "1 0 0 0", "10 0 0 0", "31 0 0 0", "11 0 0 0",
                "1 0 0 0", "10 0 0 0", "31 0 0 0", "40 0 1 1", "60 0 0 1500", "60 0 0 0");
    }

    private static void outside(Check check) {
        PacketSieve sieve = Given.compiled("ip");
        for (int k : new int[] {-1, 4, 150, Integer.MIN_VALUE, Integer.MAX_VALUE}) {
            check.due("instruction(" + k + ", 0)", -1, () -> sieve.instruction(k, 0));
        }
        for (int what : new int[] {-1, 4, Integer.MIN_VALUE, Integer.MAX_VALUE}) {
            check.due("instruction(0, " + what + ")", -1, () -> sieve.instruction(0, what));
        }
        Given.type(sieve, "tcp");
        check.due("instruction(4, 0) ahead of compile()", -1, () -> sieve.instruction(4, 0));
        sieve.compile();
        check.due("instruction(4, 0) behind it", 60, () -> sieve.instruction(4, 0));
        Given.type(sieve, "ip");
        sieve.compile();
        check.due("instruction(4, 0) of a shorter program", -1, () -> sieve.instruction(4, 0));
    }
}
