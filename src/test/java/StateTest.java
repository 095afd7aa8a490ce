/** Promises 10 and 11: run, and the state that it leaves. */
public final class StateTest {
    private final Check check = new Check();

    public static void main(String[] args) {
        new StateTest().test();
    }

    private void test() {
        withoutProgram();
        whatItEndsWith();
        programOfTheFilter();
        instructionsDone();
        numbersAtItsEnd();
        operationsWithNumber();
        operationsWithX();
        testsWithNumber();
        testsWithX();
        bitsOfNumbers();
        rejectedIsCounted();
        rejectedDoesNothing();
        zeroAtFirst();
        noRun();
        latestRun();
        otherCalls();
        refusedRun();
        outside();
        check.finish();
    }

    /** The states due from 0 on; those behind them are 0. */
    private void states(String when, Sieve sieve, int... due) {
        for (int what = 0; what <= 18; what++) {
            int asked = what;
            check.due("state(" + what + ") " + when, what < due.length ? due[what] : 0, () -> sieve.state(asked));
        }
    }

    private void runs(String text, int[] packet, int answer, int... due) {
        Sieve sieve = Given.compiled(text, packet);
        check.due("run() of \"" + text + "\"", answer, sieve::run);
        states("behind \"" + text + "\"", sieve, due);
        check.due("run() of \"" + text + "\" again", answer, sieve::run);
        states("behind \"" + text + "\" again", sieve, due);
    }

    private void withoutProgram() {
        check.sentence("IllegalStateException: there is none");
        Sieve fresh = new Sieve(1);
        check.due("run() of a new object", Given.EARLY, fresh::run);
        Sieve sieve = Given.typed("ip");
        check.due("run() of what is only typed", Given.EARLY, sieve::run);
        Given.type(sieve, " or");
        check.due("compile() of no filter", Given.BAD, sieve::compile);
        check.due("run() behind it", Given.EARLY, sieve::run);
        sieve.clear();
        Given.type(sieve, Given.repeated("len", 18, "+") + "=1");
        check.due("compile() of a filter that is too long", Given.TOO_LONG, sieve::compile);
        check.due("run() behind it", Given.EARLY, sieve::run);
        Given.packet(sieve, Given.tcp());
        check.due("run() with a packet alone", Given.EARLY, sieve::run);
        sieve.clear();
        Given.type(sieve, "ip");
        sieve.compile();
        check.due("run() with a program", Given.SNAP, sieve::run);
        Given.type(sieve, "ip or");
        check.due("compile() of no filter", Given.BAD, sieve::compile);
        check.due("run() of the program that there is", Given.SNAP, sieve::run);
    }

    private void whatItEndsWith() {
        check.sentence("what it ends with");
        for (int snap : new int[] {1, 2, 1500, 65535, 65536, Integer.MAX_VALUE}) {
            Sieve sieve = new Sieve(snap);
            String[] texts = {"len=0", "len=1", "1/0=0", "not len=0", "not len=1", "ether[0]=0"};
            int[] dues = {snap, 0, 0, 0, snap, 0};
            for (int i = 0; i < texts.length; i++) {
                Given.type(sieve, texts[i]);
                sieve.compile();
                check.due("run() of \"" + texts[i] + "\" with snap " + snap, dues[i], sieve::run);
            }
        }
    }

    private void programOfTheFilter() {
        check.sentence("The program is run over the packet");
        Sieve sieve = Given.compiled("len=2", 1, 2);
        check.due("run()", Given.SNAP, sieve::run);
        Given.type(sieve, "len=3");
        check.due("run() ahead of compile()", Given.SNAP, sieve::run);
        sieve.compile();
        check.due("run() behind compile()", 0, sieve::run);
        sieve.put(3, 1);
        check.due("run() behind put", Given.SNAP, sieve::run);
        sieve.cut(2);
        check.due("run() behind cut", 0, sieve::run);
        Given.type(sieve, "ether[1]=7");
        sieve.compile();
        check.due("run() ahead of set", 0, sieve::run);
        sieve.set(1, 7);
        check.due("run() behind set", Given.SNAP, sieve::run);
    }

    private void instructionsDone() {
        check.sentence("0 how many instructions were done (the 60 at the end, too)");
        int[] packet = Given.tcp();
        runs("1=1", packet, Given.SNAP, 3, 1);
        runs("1=2", packet, 0, 3, 1);
        runs("ip", packet, Given.SNAP, 3, 2048);
        runs("ip", new int[14], 0, 3);
        runs("tcp", packet, Given.SNAP, 5, 6);
        runs("udp", packet, 0, 5, 6);
        runs("udp", new int[14], 0, 3);
        runs("host 1.2.3.4", packet, Given.SNAP, 5, 16909060);
        runs("host 5.6.7.8", packet, Given.SNAP, 7, 84281096);
        runs("host 9.9.9.9", packet, 0, 7, 84281096);
        runs("port 1000", packet, Given.SNAP, 10, 1000, 20);
        runs("port 80", packet, Given.SNAP, 12, 80, 20);
        runs("port 9", packet, 0, 12, 80, 20);
        runs("port 9", Given.udp(), 0, 13, 80, 24);
        runs("port 9", Given.ip(1, 5), 0, 6, 1);
        runs("port 9", Given.with(packet, 21, 7), 0, 7, 7);
        runs("1=1 or 2=2", packet, Given.SNAP, 3, 1);
        runs("1=2 or 2=2", packet, Given.SNAP, 5, 2);
        runs("1=2 and 2=2", packet, 0, 3, 1);
        runs("1=1 and 2=2", packet, Given.SNAP, 5, 2);
        runs("not(1=1 and 2=2)", packet, 0, 5, 2);
        runs(Given.repeated("1=2", 31, "or"), packet, 0, 63, 1);
    }

    private void numbersAtItsEnd() {
        check.sentence("1 A, 2 X, 3 + c cell c (0 .. 15), as they were at its end");
        int[] packet = Given.tcp();
        runs("src net 1.2.3.4/24", packet, Given.SNAP, 6, 16909056);
        runs("len=len+1", packet, 0, 7, 60, 61, 61);
        runs("1+len=len+len+{len}", packet, 0, 18, 61, 180, 180, 60);
        runs("len-{2<<30}*2=len", packet, Given.SNAP, 12, 60, 60, 60, 0);
        runs("tcp[12+0:2]=0", packet, Given.SNAP, 16, 0, 32, 12);
        runs("ether[len-34]=1", packet, Given.SNAP, 6, 1, 26);
        int[] all = new int[19];
        java.util.Arrays.fill(all, 60);
        all[0] = 67;
        all[1] = 1020;
        runs(Given.repeated("len", 17, "+") + "=1", packet, 0, all);
        int[] places = new int[17];
        for (int i = 0; i < 17; i++) {
            places[i] = 100 + i;
        }
        Sieve sieve = new Sieve(9);
        Given.packet(sieve, places);
        String sum = "";
        for (int i = 0; i < 13; i++) {
            sum += (i == 0 ? "" : "+") + "ether[" + i + "]";
        }
        Given.type(sieve, sum + "=0");
        sieve.compile();
        sieve.run();
        states("behind a sum of bytes", sieve, 51, 1378, 112, 112, 111, 110, 109, 108, 107, 106, 105, 104, 103, 102, 101);
    }

    private void operationsWithNumber() {
        check.sentence("20 + o: A = A with k, by o");
        int[] packet = new int[13];
        String[] signs = {"+", "-", "*", "/", "<<", ">>", "&", "|"};
        int[] dues = {16, 10, 39, 4, 104, 1, 1, 15};
        for (int o = 0; o < 8; o++) {
            runs("len" + signs[o] + "3=0", packet, 0, 4, dues[o]);
        }
    }

    private void operationsWithX() {
        check.sentence("30 + o: A = A with X, by o");
        int[] packet = new int[13];
        String[] signs = {"+", "-", "*", "/", "<<", ">>", "&", "|"};
        int[] dues = {16, -10, 39, 0, 24576, 0, 1, 15};
        for (int o = 0; o < 8; o++) {
            runs("3" + signs[o] + "len=99", packet, 0, 7, dues[o], 13, 13);
        }
    }

    private void testsWithNumber() {
        check.sentence("40, 41, 42, 43: whether A = k, A > k, A >= k, A & k is not 0");
        int[] packet = new int[13];
        String[] signs = {"=", "!=", ">", "<=", ">=", "<"};
        int[][] dues = {{0, 1, 0, 1, 0, 1}, {1, 0, 0, 1, 1, 0}, {0, 1, 1, 0, 1, 0}};
        for (int i = 0; i < signs.length; i++) {
            for (int other = 12; other <= 14; other++) {
                runs("len" + signs[i] + other, packet, dues[14 - other][i] * Given.SNAP, 3, 13);
            }
            runs("4294967295" + signs[i] + "1", packet, dues[2][i] * Given.SNAP, 3, -1);
            runs("1" + signs[i] + "4294967295", packet, dues[0][i] * Given.SNAP, 3, 1);
        }
        runs("src port 9", Given.with(Given.tcp(), 20, 0xE0), 0, 10, 1000, 20);
        runs("src port 9", Given.with(Given.tcp(), 20, 0x10), 0, 7, 4096);
    }

    private void testsWithX() {
        check.sentence("50, 51, 52 the same three with X");
        int[] packet = new int[13];
        String[] signs = {"=", "!=", ">", "<=", ">=", "<"};
        int[][] dues = {{0, 1, 0, 1, 0, 1}, {1, 0, 0, 1, 1, 0}, {0, 1, 1, 0, 1, 0}};
        for (int i = 0; i < signs.length; i++) {
            for (int a = 12; a <= 14; a++) {
                runs(a + signs[i] + "len", packet, dues[a - 12][i] * Given.SNAP, 6, a, 13, 13);
            }
            runs("len" + signs[i] + "0-1", packet, dues[0][i] * Given.SNAP, 7, 13, -1, -1);
            runs("4294967295" + signs[i] + "len", packet, dues[2][i] * Given.SNAP, 6, -1, 13, 13);
        }
    }

    private void bitsOfNumbers() {
        check.sentence("(as ints with these bits)");
        int[] packet = {255, 255, 255, 255, 128, 0, 0, 0, 127, 255, 255, 255};
        runs("ether[0:4]=0", packet, 0, 3, -1);
        runs("ether[4:4]=0", packet, 0, 3, Integer.MIN_VALUE);
        runs("ether[8:4]=0", packet, 0, 3, Integer.MAX_VALUE);
        runs("0-1=0", packet, 0, 4, -1);
        runs("2147483648=len", packet, 0, 6, Integer.MIN_VALUE, 12, 12);
        runs("ether[4:4]=ether[0:4]", packet, 0, 6, Integer.MIN_VALUE, -1, -1);
        runs("1=ether[0:4]-ether[8:4]", packet, 0, 10, 1, Integer.MIN_VALUE, Integer.MIN_VALUE);
        runs("ip[0]=0", Given.with(Given.tcp(), 14, 255), 0, 5, 255);
    }

    private void rejectedIsCounted() {
        check.sentence("0 how many instructions were done (that which REJECTED, too)");
        int[] packet = Given.tcp();
        runs("ip", new int[13], 0, 1);
        runs("tcp", Given.first(packet, 23), 0, 3, 2048);
        runs("host 1.2.3.4", Given.first(packet, 29), 0, 3, 2048);
        runs("host 5.6.7.8", Given.first(packet, 33), 0, 5, 16909060);
        runs("port 80", Given.first(packet, 35), 0, 8, 0, 20);
        runs("port 80", Given.first(packet, 37), 0, 10, 1000, 20);
        runs("port 80", Given.first(Given.udp(), 37), 0, 9, 0, 24);
        runs("ip or 1/0=1", new int[14], 0, 4, 1);
        runs("1=2 or 1=2 or ether[60]=1", packet, 0, 5, 1);
        runs("1=1 and not ether[60]=1 or 1=1", packet, 0, 3, 1);
    }

    private void rejectedDoesNothing() {
        check.sentence("(REJECTED: it ends with 0, and nothing of that instruction is done.)");
        int[] packet = Given.tcp();
        for (int size = 1; size <= 4; size *= 2) {
            String end = ":" + size + "]=1";
            runs("ether[" + (61 - size) + end, packet, 0, 1);
            runs("7=1 or ether[" + (61 - size) + end, packet, 0, 3, 7);
            runs("ether[len-" + (size - 1) + end, packet, 0, 4, 61 - size, 61 - size);
            runs("7=1 or 5+ether[60:" + size + "]=len", packet, 0, 5, 60, 0, 60);
            runs("ether[4294967295:" + size + "]=1", packet, 0, 1);
            runs("ether[0-1:" + size + "]=1", packet, 0, 4, -1, -1);
        }
        runs("7/0=1", packet, 0, 2, 7);
        runs("len/0=1", packet, 0, 2, 60);
        runs("7/{len-len}=1", packet, 0, 9, 7, 0, 0);
        runs("4294967295/ether[0]=1", packet, 0, 5, -1);
        runs("tcp[99]=1", packet, 0, 13, 119, 119, 99);
        runs("tcp[0-40]=1", packet, 0, 14, -20, -20, -40);
    }

    private void zeroAtFirst() {
        check.sentence("A, X and CELLS (numbers, 0 at first)");
        Sieve sieve = Given.compiled("1+len=len+len+{len}", 1, 2, 3);
        sieve.run();
        states("behind the first run", sieve, 18, 4, 9, 9, 3);
        Given.type(sieve, "1=1");
        sieve.compile();
        sieve.run();
        states("behind a run without X and cells", sieve, 3, 1);
        Given.type(sieve, "ether[9]=1");
        sieve.compile();
        sieve.run();
        states("behind a run that rejects at once", sieve, 1);
        Given.type(sieve, "len=len");
        sieve.compile();
        sieve.run();
        states("behind a run with one cell", sieve, 6, 3, 3, 3);
    }

    private void noRun() {
        check.sentence("0 when there was none");
        Sieve sieve = new Sieve(1);
        states("of a new object", sieve);
        Given.type(sieve, "ether[0]=1");
        states("behind type", sieve);
        sieve.compile();
        states("behind compile()", sieve);
        Given.packet(sieve, 1, 2, 3);
        states("behind put", sieve);
        check.due("holds()", 1, sieve::holds);
        states("behind holds()", sieve);
    }

    private void latestRun() {
        check.sentence("Of the latest run");
        Sieve sieve = Given.compiled("ether[0]=1", 1, 2, 3);
        check.due("the first run()", Given.SNAP, sieve::run);
        states("behind the first run()", sieve, 3, 1);
        sieve.set(0, 77);
        check.due("the second run()", 0, sieve::run);
        states("behind the second run()", sieve, 3, 77);
        sieve.cut(0);
        check.due("the third run(), which rejects", 0, sieve::run);
        states("behind the third run()", sieve, 1);
        Given.type(sieve, "len=len");
        sieve.compile();
        check.due("the fourth run()", Given.SNAP, sieve::run);
        states("behind the fourth run()", sieve, 6);
    }

    private void otherCalls() {
        check.sentence("Of the latest run (other calls change nothing)");
        Sieve sieve = Given.compiled("tcp[12+0:2]=0", Given.tcp());
        check.due("run()", Given.SNAP, sieve::run);
        int[] due = {16, 0, 32, 12};
        states("behind run()", sieve, due);
        sieve.set(23, 1);
        states("behind set", sieve, due);
        sieve.holds();
        states("behind holds()", sieve, due);
        Given.type(sieve, "len");
        Check.answer(sieve::compile);
        states("behind a refused compile()", sieve, due);
        sieve.cut(20);
        sieve.put(7, 1);
        sieve.cut(99);
        states("behind cut and put", sieve, due);
        Given.type(sieve, "=len");
        sieve.compile();
        states("behind compile()", sieve, due);
        sieve.clear();
        sieve.instruction(0, 0);
        states("behind clear() and instruction", sieve, due);
    }

    private void refusedRun() {
        check.sentence("Of the latest run: 0 when there was none (run() that throws is none)");
        Sieve none = new Sieve(1);
        check.due("run() without a program", Given.EARLY, none::run);
        states("behind a run() that throws", none);
    }

    private void outside() {
        check.sentence("-1 for others");
        Sieve sieve = new Sieve(1);
        int[] others = {-1, -2, -3, 19, 20, 21, 100, 256, 259, Integer.MIN_VALUE, Integer.MIN_VALUE + 3, Integer.MAX_VALUE};
        for (int what : others) {
            check.due("state(" + what + ") ahead of a run", -1, () -> sieve.state(what));
        }
        Given.type(sieve, Given.repeated("len", 17, "+") + "=1");
        sieve.compile();
        sieve.put(0, 5);
        sieve.run();
        for (int what : others) {
            check.due("state(" + what + ")", -1, () -> sieve.state(what));
        }
        check.due("state(18), the last cell", 5, () -> sieve.state(18));
        check.due("state(0), the first", 67, () -> sieve.state(0));
    }
}
