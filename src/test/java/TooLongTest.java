/** Promise 4, with the words under "Terms": which filters are TOO LONG. */
public final class TooLongTest {
    /** 12 instructions each. */
    private static final String TWELVE_PORTS = Given.repeated("port 1", 12, "or ");

    private final Check check = new Check();

    public static void main(String[] args) {
        new TooLongTest().test();
    }

    private void test() {
        cellsOfPairs();
        cellsOfRelations();
        cellsOfAccesses();
        cellsWithinBrackets();
        noCells();
        instructions();
        mostInstructions();
        check.finish();
    }

    private void compiles(String text, Object due) {
        check.due("compile() of \"" + text + "\"", due, Given.typed(text)::compile);
    }

    private static String lens(int n, String sign) {
        return Given.repeated("len", n, sign);
    }

    private void cellsOfPairs() {
        check.sentence("When a cell above 15 would be used (by 10 or 11) (pairs)");
        for (String sign : new String[] {"+", "-", "*", "/", "<<", ">>", "&", "|"}) {
            compiles(lens(16, sign) + "=1", 64);
            compiles(lens(17, sign) + "=1", 68);
            compiles(lens(18, sign) + "=1", Given.TOO_LONG);
            compiles(lens(19, sign) + "=1", Given.TOO_LONG);
        }
        Sieve sieve = Given.compiled(lens(17, "+") + "=1");
        check.same("the highest cell is written", "11 0 0 15", Given.instruction(sieve, 31));
        check.same("the last value is read", "1 0 0 0", Given.instruction(sieve, 32));
        check.same("the highest cell is read", "10 0 0 15", Given.instruction(sieve, 33));
        compiles(lens(39, "+") + "=1", Given.TOO_LONG);
    }

    private void cellsOfRelations() {
        check.sentence("When a cell above 15 would be used (by 10 or 11) (relations)");
        for (String sign : new String[] {"=", "!=", "<", ">", "<=", ">="}) {
            compiles(lens(16, "+") + sign + "len", 67);
            compiles(lens(17, "+") + sign + "len", Given.TOO_LONG);
            compiles("1" + sign + lens(17, "-"), 71);
            compiles("1" + sign + lens(18, "-"), Given.TOO_LONG);
            compiles(lens(16, "+") + sign + lens(17, "-"), 131);
            compiles(lens(17, "+") + sign + lens(17, "-"), Given.TOO_LONG);
            compiles(lens(16, "+") + sign + lens(18, "-"), Given.TOO_LONG);
        }
    }

    private void cellsOfAccesses() {
        check.sentence("When a cell above 15 would be used (by 9 or 11) (accesses)");
        for (String name : new String[] {"tcp", "udp"}) {
            compiles(name + "[0]+" + lens(14, "+") + "=1", 72);
            compiles(name + "[0]+" + lens(15, "+") + "=1", 76);
            compiles(name + "[0]+" + lens(16, "+") + "=1", Given.TOO_LONG);
            compiles(name + "[len]+" + lens(15, "+") + "=1", 76);
            compiles(name + "[len]+" + lens(16, "+") + "=1", Given.TOO_LONG);
            compiles(name + "[0]+" + lens(14, "+") + "=len", 75);
            compiles(name + "[0]+" + lens(15, "+") + "=len", Given.TOO_LONG);
            compiles("1+" + name + "[0]+" + lens(14, "+") + "=1", 76);
            compiles("1+" + name + "[0]+" + lens(15, "+") + "=1", 80);
            compiles("1+" + name + "[0]+" + lens(16, "+") + "=1", Given.TOO_LONG);
        }
    }

    private void cellsWithinBrackets() {
        check.sentence("When a cell above 15 would be used (within brackets)");
        compiles("ether[len+len]+" + lens(15, "+") + "=1", 70);
        compiles("ether[len+len]+" + lens(16, "+") + "=1", Given.TOO_LONG);
        compiles("ip[len+len]+" + lens(15, "+") + "=1", 72);
        compiles("ip[len+len]+" + lens(16, "+") + "=1", Given.TOO_LONG);
        compiles("ether[ether[" + lens(17, "+") + "]]=1", 72);
        compiles("ether[ether[" + lens(18, "+") + "]]=1", Given.TOO_LONG);
        compiles("{" + lens(9, "+") + "}-" + lens(8, "-") + "=1", 68);
        compiles("{" + lens(10, "+") + "}-" + lens(8, "-") + "=1", Given.TOO_LONG);
        compiles("ether[tcp[" + lens(17, "+") + "]]=1", 82);
        compiles("ether[tcp[0]+" + lens(16, "+") + "]=1", Given.TOO_LONG);
        compiles("1=1 or(not " + lens(18, "*") + "=1)", Given.TOO_LONG);
    }

    /** The left part of a pair has the next cells, the right one its own; a number behind a sign has none. */
    private void noCells() {
        check.sentence("When a cell above 15 would be used (where none is)");
        compiles(Given.repeated("1", 79, "+") + "=1", 82);
        compiles("len" + Given.repeated("+1", 77, "") + "=1", 81);
        compiles("len" + Given.repeated("+{{1}}", 25, "") + "=1", 29);
        compiles("ether[len]+" + lens(16, "+") + "=1", 70);
        compiles("ip[len]+" + lens(16, "+") + "=1", 72);
        compiles("ether[0]+" + lens(16, "+") + "=1", 68);
        compiles("ether[len+1]+" + lens(16, "+") + "=1", 71);
        compiles("len+1+2+3+" + lens(16, "+") + "=1", 71);
        compiles("{len-1}+" + lens(16, "+") + "=1", 69);
        compiles("len-{len-{len-{len-{len-{len-{len-{len-{len-len}}}}}}}}=1", 40);
        compiles("len*len+len*len+len*len+len*len+len*len+len*len+len*len+len*len+len*len+len*len=1", 80);
        compiles(Given.repeated("len=len", 14, " or "), 72);
    }

    private void instructions() {
        check.sentence("or there would be more than 150 instructions");
        compiles(TWELVE_PORTS, 146);
        compiles(TWELVE_PORTS + "or 1=1", 148);
        compiles(TWELVE_PORTS + "or 1+1=1", 149);
        String[] four = {"1+1+1=1", "tcp", "udp", "src host 1.1.1.1", "dst host 1.1.1.1", "1=1or 1=1", "ether[len]=1", "ip and ip", "ip[0]=1",
            "ip[0:4]<1", "not tcp", "1=1and 2=2"};
        for (String more : four) {
            compiles(TWELVE_PORTS + " or " + more, 150);
            compiles(TWELVE_PORTS + " and " + more, 150);
            compiles(more + " or " + TWELVE_PORTS, 150);
            compiles("not(" + more + " and " + TWELVE_PORTS + ")", 150);
            compiles(TWELVE_PORTS + " or 1=1 or " + more, Given.TOO_LONG);
        }
        String[] five = {"1+1+1+1=1", "src net 1.1.1.1/1", "dst net 1.1.1.1/0", "1=len", "ether[len+1]=1", "len=len", "5>ether[0]"};
        for (String more : five) {
            compiles(TWELVE_PORTS + " or " + more, Given.TOO_LONG);
            compiles(TWELVE_PORTS + " and " + more, Given.TOO_LONG);
            compiles(more + " or " + TWELVE_PORTS, Given.TOO_LONG);
            compiles("not(" + more + " and " + TWELVE_PORTS + ")", Given.TOO_LONG);
        }
        String[] more = {"host 1.1.1.1", "net 1.1.1.1/1", "ether[0]+len=1", "ip[len]=1", "tcp[0]=1", "udp[0]=1", "port 1", "src port 1", "dst port 1"};
        for (String text : more) {
            compiles(TWELVE_PORTS + " or " + text, Given.TOO_LONG);
            compiles(text + " or " + TWELVE_PORTS, Given.TOO_LONG);
        }
    }

    private void mostInstructions() {
        check.sentence("a PROGRAM of at most 150 instructions");
        Sieve sieve = Given.compiled(TWELVE_PORTS + "or tcp");
        check.same("the first one", "3 0 0 12", Given.instruction(sieve, 0));
        check.same("the last test", "40 0 1 6", Given.instruction(sieve, 147));
        check.same("the last one but one", "60 0 0 1500", Given.instruction(sieve, 148));
        check.same("the last one", "60 0 0 0", Given.instruction(sieve, 149));
        check.due("the one behind", -1, () -> sieve.instruction(150, 0));
        Given.packet(sieve, Given.tcp());
        check.due("holds()", 1, sieve::holds);
        check.due("run()", Given.SNAP, sieve::run);
        Sieve cells = Given.compiled(lens(17, "-") + "=" + "4294967281", 1);
        check.due("holds() with all cells", 1, cells::holds);
        check.due("run() with all cells", Given.SNAP, cells::run);
        for (int c = 0; c <= 15; c++) {
            int asked = 3 + c;
            check.due("state(" + asked + ")", 1, () -> cells.state(asked));
        }
    }
}
