/** Promises 9 and 10: what a filter says of a packet. NumbersTest, FieldsTest and LookingTest have more of it. */
public final class HoldsTest {
    private final Check check = new Check();
    private final Verdict verdict = new Verdict(check);

    public static void main(String[] args) {
        new HoldsTest().test();
    }

    private void test() {
        withoutFilter();
        threeAnswers();
        againAndAgain();
        nothingElse();
        logic();
        grouping();
        longFilters();
        relationsOfAccesses();
        protocolsOfRelations();
        accessesInAccesses();
        check.finish();
    }

    private void withoutFilter() {
        check.sentence("IllegalStateException: there is no filter");
        Sieve fresh = new Sieve(1);
        check.due("holds() of a new object", Given.EARLY, fresh::holds);
        Sieve sieve = Given.typed("ip");
        check.due("holds() of what is only typed", Given.EARLY, sieve::holds);
        Given.type(sieve, " or");
        check.due("compile() of no filter", Given.BAD, sieve::compile);
        check.due("holds() behind it", Given.EARLY, sieve::holds);
        sieve.clear();
        Given.type(sieve, Given.repeated("port 1", 15, " or "));
        check.due("compile() of a filter that is too long", Given.TOO_LONG, sieve::compile);
        check.due("holds() behind it", Given.EARLY, sieve::holds);
        sieve.clear();
        Given.packet(sieve, Given.tcp());
        check.due("holds() with a packet alone", Given.EARLY, sieve::holds);
        Given.type(sieve, "ip");
        sieve.compile();
        check.due("holds() with a filter", 1, sieve::holds);
        Given.type(sieve, "ip or");
        check.due("compile() of no filter", Given.BAD, sieve::compile);
        check.due("holds() by the filter that there is", 1, sieve::holds);
        sieve.clear();
        check.due("holds() behind clear()", 1, sieve::holds);
    }

    private void threeAnswers() {
        check.sentence("What the filter says of the packet: 1 it holds, 0 it does not, -1 it REJECTS");
        for (int snap : new int[] {1, 2, 65535, Integer.MAX_VALUE}) {
            Sieve sieve = new Sieve(snap);
            String[] texts = {"1=1", "1=2", "1/0=1", "not 1=1", "not 1=2", "not 1/0=1"};
            int[] dues = {1, 0, -1, 0, 1, -1};
            for (int i = 0; i < texts.length; i++) {
                Given.type(sieve, texts[i]);
                sieve.compile();
                check.due("holds() of \"" + texts[i] + "\"", dues[i], sieve::holds);
                check.due("run() of \"" + texts[i] + "\"", dues[i] == 1 ? snap : 0, sieve::run);
            }
        }
    }

    private void againAndAgain() {
        check.sentence("What the filter says of the packet (as it is now)");
        Sieve sieve = Given.compiled("ether[1]/ether[0]=2", 1, 2);
        for (int i = 0; i < 3; i++) {
            check.due("holds()", 1, sieve::holds);
            check.due("set(0, 0)", 1, () -> sieve.set(0, 0));
            check.due("holds() with a 0", -1, sieve::holds);
            check.due("run() with a 0", 0, sieve::run);
            check.due("set(0, 2)", 0, () -> sieve.set(0, 2));
            check.due("holds() with a 2", 0, sieve::holds);
            check.due("run() with a 2", 0, sieve::run);
            check.due("cut(1)", 2, () -> sieve.cut(1));
            check.due("holds() of half", -1, sieve::holds);
            check.due("put(4)", 2, () -> sieve.put(4, 1));
            check.due("holds() with a 4", 1, sieve::holds);
            check.due("run() with a 4", Given.SNAP, sieve::run);
            sieve.cut(0);
            sieve.put(Given.packed(1, 2), 2);
        }
    }

    private void nothingElse() {
        check.sentence("holds (and nothing is changed by it)");
        Sieve sieve = Given.compiled("ether[0]+len=3", 1, 2);
        sieve.run();
        Given.type(sieve, "1=");
        sieve.set(0, 9);
        check.due("holds()", 0, sieve::holds);
        check.due("state(0)", 7, () -> sieve.state(0));
        check.due("state(1)", 3, () -> sieve.state(1));
        check.due("state(2)", 2, () -> sieve.state(2));
        check.due("state(3)", 2, () -> sieve.state(3));
        check.due("clear()", 2, sieve::clear);
        check.due("cut(2)", 2, () -> sieve.cut(2));
        check.due("instruction(0, 0)", 1, () -> sieve.instruction(0, 0));
    }

    private void logic() {
        check.sentence("a and b, a or b, not a");
        int[] packet = Given.tcp();
        String[] yes = {"1=1", "tcp", "port 80", "not udp", "(ip)"};
        String[] no = {"1=2", "udp", "port 81", "not tcp", "(host 9.9.9.9)"};
        for (int i = 0; i < yes.length; i++) {
            verdict.eachSays(packet, 1, yes[i], "not " + no[i], "not not " + yes[i], yes[i] + " and " + yes[i], yes[i] + " or " + no[i],
                    no[i] + " or " + yes[i], yes[i] + " or " + yes[i], "not(" + yes[i] + " and " + no[i] + ")", "not(" + no[i] + " or " + no[i] + ")",
                    "not " + no[i] + " and " + yes[i], "not " + yes[i] + " or " + yes[i]);
            verdict.eachSays(packet, 0, no[i], "not " + yes[i], "not not " + no[i], yes[i] + " and " + no[i], no[i] + " and " + yes[i],
                    no[i] + " and " + no[i], no[i] + " or " + no[i], "not(" + yes[i] + " or " + no[i] + ")", "not(" + no[i] + " or " + yes[i] + ")",
                    "not " + yes[i] + " and " + yes[i], "not " + yes[i] + " or " + no[i]);
        }
    }

    private void grouping() {
        check.sentence("and binds ahead of or, not ahead of both; ( ) go first");
        int[] packet = Given.tcp();
        verdict.eachSays(packet, 1, "1=1 or 1=1 and 1=2", "1=2 and 1=1 or 1=1", "1=2 and 1=2 or 1=1 and 1=1", "not 1=2 and 1=1", "not 1=1 or 1=1",
                "not(1=1 and 1=2)", "1=1 and(1=2 or 1=1)", "ip and not(udp or not tcp and ip)", "(1=2 or 1=1)and(1=1 or 1=2)");
        verdict.eachSays(packet, 0, "(1=1 or 1=1)and 1=2", "1=2 and(1=1 or 1=1)", "1=2 or 1=1 and 1=2", "1=2 and 1=1 or 1=2", "not 1=1 and 1=2",
                "not(1=1 or 1=2)", "not(1=2 or 1=1)and 1=1", "not 1=2 and 1=2", "not(not(1=2))");
    }

    private void longFilters() {
        check.sentence("({ } any number of times)");
        int[] packet = Given.tcp();
        verdict.says(Given.repeated("1=2", 31, "or") + "or ip", packet, 1);
        verdict.says(Given.repeated("1=2", 31, "or") + "or udp", packet, 0);
        verdict.says(Given.repeated("1=1", 25, "and") + "and ip", packet, 1);
        verdict.says(Given.repeated("1=1", 25, "and") + "and udp", packet, 0);
        verdict.says(Given.repeated("not", 39, " ") + " ip", packet, 0);
        verdict.says(Given.repeated("not", 38, " ") + " ip", packet, 1);
        verdict.says(Given.repeated("1", 77, "+") + "=77", packet, 1);
        verdict.says("77=" + Given.repeated("1", 77, "+"), packet, 1);
        verdict.says(Given.repeated("2", 60, "*") + "=0", packet, 1);
        verdict.says("0-" + Given.repeated("1", 70, "-") + "=4294967226", packet, 1);
        verdict.says(Given.repeated("len", 17, "-") + "=4294966396", packet, 1);
    }

    /** 60 bytes whose numbers tell their places: 100 + place; TCP, whole, its header has 24 bytes. */
    private static int[] counted() {
        int[] packet = new int[60];
        for (int i = 0; i < 60; i++) {
            packet[i] = 100 + i;
        }
        packet[12] = 8;
        packet[13] = 0;
        packet[14] = 0x46;
        packet[20] = 0;
        packet[21] = 0;
        packet[23] = 6;
        return packet;
    }

    private void relationsOfAccesses() {
        check.sentence("Then the values are compared");
        int[] packet = counted();
        verdict.eachSays(packet, 1, "ether[0]=100", "ip[1]=115", "tcp[0]=138", "tcp[0]-ip[1]=23", "tcp[1:2]=35724", "tcp[len-len+1:2]=35724",
                "ip[2]*2<ether[3]*3", "ether[59]>=ip[45]", "ip[45]<=tcp[21]", "100=ether[0]", "len<ether[0]", "ether[0]!=ether[1]",
                "{ether[1]-ether[0]}=1", "tcp[0]&15|ip[1]<<8=29450");
        verdict.eachSays(packet, 0, "ether[0]!=100", "ip[1]<115", "tcp[0]>138", "ether[0]=ether[1]", "len>=ether[0]");
    }

    private void protocolsOfRelations() {
        check.sentence("if one of these does not hold, nor does the relation");
        int[] packet = counted();
        int[] noIp = Given.with(packet, 12, 9);
        int[] udp = Given.with(packet, 23, 17);
        int[] part = Given.with(packet, 21, 1);
        verdict.eachSays(packet, 0, "udp[0]=138", "udp[0]!=138", "udp[0]>=0", "1=1 and udp[0]>=0", "tcp[0]=udp[0]", "udp[0]=tcp[0]");
        verdict.eachSays(packet, 1, "not udp[0]>=0", "udp[0]>=0 or 1=1");
        verdict.eachSays(udp, 0, "tcp[0]=138", "tcp[0]!=138", "tcp[0]=udp[0]", "ip[0]+tcp[0]>=0");
        verdict.eachSays(udp, 1, "udp[0]=138", "ip[0]+udp[0]=208", "not tcp[0]>=0");
        verdict.eachSays(noIp, 0, "ip[0]=70", "ip[0]!=70", "tcp[0]>=0", "udp[0]>=0", "ether[0]+ip[0]>=0", "ether[0]<=ip[0]");
        verdict.eachSays(noIp, 1, "ether[0]=100", "ether[14]=70", "not ip[0]>=0", "len=60");
        verdict.eachSays(part, 0, "tcp[0]>=0", "ip[0]+tcp[0]>=0", "len<=tcp[0]");
        verdict.eachSays(part, 1, "ip[0]=70", "ether[0]=100", "not tcp[0]>=0", "tcp");
    }

    private void accessesInAccesses() {
        check.sentence("(inner accesses, too)");
        int[] packet = counted();
        int[] noIp = Given.with(packet, 12, 9);
        int[] udp = Given.with(packet, 23, 17);
        int[] part = Given.with(packet, 21, 1);
        verdict.eachSays(packet, 1, "ether[ip[0]-70]=100", "ether[tcp[0]-137]=101", "ip[tcp[0]-137]=115", "tcp[ip[0]&15]=144",
                "ether[ether[ether[23]*2]]=6 or ether[12]=8", "ether[ether[23]]=106", "ether[{tcp[0]}-138]=100", "tcp[tcp[0]-138]=138");
        verdict.eachSays(noIp, 0, "ether[ip[0]-70]>=0", "ether[ether[ip[0]-70]-100]>=0", "1<=ether[{ip[0]}-70]", "ether[tcp[0]-138]>=0");
        verdict.eachSays(udp, 0, "ether[tcp[0]-138]>=0", "ip[tcp[0]-138]>=0", "udp[tcp[0]-138]>=0", "1+ether[1+tcp[0]-138]>=0");
        verdict.eachSays(udp, 1, "ether[udp[0]-138]=100", "ip[udp[0]-137]=115", "udp[udp[0]-138]=138");
        verdict.eachSays(part, 0, "ether[tcp[0]-138]>=0", "0<=ether[ether[tcp[0]-138]-100]");
        verdict.eachSays(packet, 0, "ether[udp[0]-138]>=0", "tcp[udp[0]-138]>=0", "0<=ip[udp[0]-138]");
    }
}
