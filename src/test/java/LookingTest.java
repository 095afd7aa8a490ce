/**
 * Promises 9 and 10, with the words under "Terms": all is looked at from the left, and only as far as needed. What is
 * looked at can be told by what REJECTS.
 */
public final class LookingTest {
    private static final String REJECTS = "1/0=0";
    private static final String HOLDS = "1=1";
    private static final String FAILS = "1=2";

    private final Check check = new Check();
    private final Verdict verdict = new Verdict(check);

    public static void main(String[] args) {
        new LookingTest().test();
    }

    private void test() {
        whateverTheRestSays();
        and();
        or();
        not();
        ipAheadOfProtocol();
        protocolAheadOfWhole();
        wholeAheadOfPorts();
        ipAheadOfAddresses();
        sourceAheadOfTarget();
        oneEndAlone();
        protocolsAheadOfValues();
        wholly();
        check.finish();
    }

    private void whateverTheRestSays() {
        check.sentence("REJECT the packet, whatever the rest of the filter says");
        int[] packet = Given.tcp();
        for (String rejects : new String[] {REJECTS, "ether[60]=0", "ip[46]>=0", "tcp[99]!=0", "1/{len-60}=1", "len=ether[len]"}) {
            for (String rest : new String[] {HOLDS, FAILS, REJECTS, "tcp", "udp"}) {
                verdict.eachSays(packet, -1, rejects + " or " + rest, rejects + " and " + rest, "not(" + rejects + " or " + rest + ")",
                        "not(" + rejects + " and " + rest + ")", "not " + rejects + " or " + rest, "(" + rejects + ")or(" + rest + ")",
                        rejects + " or not " + rest, HOLDS + " and " + rejects + " or " + rest, FAILS + " or " + rejects + " or " + rest);
            }
        }
    }

    private void and() {
        check.sentence("and goes on only when it is not settled");
        int[] packet = Given.tcp();
        verdict.eachSays(packet, 0, FAILS + " and " + REJECTS, "udp and " + REJECTS, FAILS + " and not " + REJECTS,
                HOLDS + " and " + FAILS + " and " + REJECTS, FAILS + " and(" + REJECTS + " or " + HOLDS + ")", "not tcp and " + REJECTS,
                FAILS + " and " + REJECTS + " or " + FAILS, "udp and udp[99]=1", "udp and port 1 and " + REJECTS);
        verdict.eachSays(packet, 1, "not(" + FAILS + " and " + REJECTS + ")", FAILS + " and " + REJECTS + " or " + HOLDS);
        verdict.eachSays(packet, -1, HOLDS + " and " + REJECTS, "tcp and " + REJECTS, HOLDS + " and " + HOLDS + " and " + REJECTS,
                HOLDS + " and " + REJECTS + " and " + FAILS, FAILS + " and " + REJECTS + " or " + REJECTS);
    }

    private void or() {
        check.sentence("or goes on only when it is not settled");
        int[] packet = Given.tcp();
        verdict.eachSays(packet, 1, HOLDS + " or " + REJECTS, "tcp or " + REJECTS, HOLDS + " or not " + REJECTS,
                FAILS + " or " + HOLDS + " or " + REJECTS, HOLDS + " or(" + REJECTS + " and " + FAILS + ")", "not udp or " + REJECTS,
                HOLDS + " or " + FAILS + " and " + REJECTS, HOLDS + " or " + REJECTS + " and " + REJECTS, "tcp or tcp[99]=1");
        verdict.eachSays(packet, 0, "not(" + HOLDS + " or " + REJECTS + ")", "(" + HOLDS + " or " + REJECTS + ")and " + FAILS);
        verdict.eachSays(packet, -1, FAILS + " or " + REJECTS, "udp or " + REJECTS, FAILS + " or " + FAILS + " or " + REJECTS,
                FAILS + " or " + REJECTS + " or " + HOLDS, "(" + HOLDS + " or " + REJECTS + ")and " + REJECTS);
    }

    private void not() {
        check.sentence("REJECT the packet, whatever the rest of the filter says (not)");
        int[] packet = Given.tcp();
        verdict.eachSays(packet, -1, "not " + REJECTS, "not not " + REJECTS, "not not not " + REJECTS, "not(not " + REJECTS + ")",
                "not ether[99]=0", "not(" + HOLDS + " and " + REJECTS + ")");
        verdict.eachSays(Given.first(packet, 13), -1, "not ip", "not tcp", "not port 1", "not host 1.2.3.4", "not net 1.2.3.4/0");
    }

    private void ipAheadOfProtocol() {
        check.sentence("IP ahead of FIELD(23, 1)");
        for (int n = 14; n <= 23; n++) {
            verdict.eachSays(new int[n], 0, "tcp", "udp", "port 1", "src port 0", "dst port 0", "tcp[0]>=0", "udp[0]>=0", "ether[tcp[0]]>=0");
            verdict.eachSays(new int[n], 1, "not tcp", "not udp", "not port 1", "not tcp[0]>=0");
            verdict.eachSays(Given.first(Given.tcp(), n), -1, "tcp", "udp", "port 1", "not tcp", "tcp[0]>=0", "udp[0]>=0");
        }
        int[] noIp = Given.with(Given.tcp(), 13, 1);
        verdict.eachSays(noIp, 0, "tcp", "udp", "port 80", "tcp[0]>=0");
    }

    /** Up to 23 bytes the one is outside; from 22 on the other, which fails here, is within. */
    private void protocolAheadOfWhole() {
        check.sentence("that (FIELD(23, 1)) ahead of WHOLE");
        int[] part = Given.with(Given.tcp(), 21, 1);
        for (int n = 22; n <= 23; n++) {
            verdict.eachSays(Given.first(part, n), -1, "port 80", "src port 80", "dst port 80", "tcp[0]>=0", "udp[0]>=0", "not port 80",
                    "not tcp[0]>=0", "0<=ether[udp[0]]");
        }
        verdict.eachSays(Given.first(part, 24), 0, "port 80", "tcp[0]>=0", "udp[0]>=0");
    }

    private void wholeAheadOfPorts() {
        check.sentence("TCP or UDP, and WHOLE, and FIELD(14 + HEAD, 2)");
        for (int protocol = 6; protocol <= 17; protocol += 11) {
            int[] part = Given.with(Given.ip(protocol, 5), 21, 1);
            verdict.eachSays(Given.first(part, 24), 0, "port 80", "src port 80", "dst port 80", "tcp[0]>=0", "udp[0]>=0");
            verdict.eachSays(Given.first(Given.ip(protocol, 5), 24), -1, "port 80", "src port 80", "dst port 80");
        }
        verdict.eachSays(Given.first(Given.ip(1, 5), 24), 0, "port 80", "src port 80", "dst port 80", "tcp[0]>=0", "udp[0]>=0");
        verdict.eachSays(Given.first(Given.with(Given.ip(1, 5), 21, 1), 24), 0, "port 80", "tcp[0]>=0", "udp[0]>=0");
    }

    private void ipAheadOfAddresses() {
        check.sentence("host: IP, and FIELD(26, 4)");
        for (int n = 14; n <= 33; n++) {
            verdict.eachSays(new int[n], 0, "host 0.0.0.0", "src host 0.0.0.0", "dst host 0.0.0.0", "net 0.0.0.0/0", "src net 1.2.3.4/0",
                    "dst net 1.2.3.4/0");
        }
    }

    private void sourceAheadOfTarget() {
        check.sentence("the source ahead of the target; a pair of source and target goes on only when it is not settled");
        int[] tcp = Given.tcp();
        for (int n = 30; n <= 33; n++) {
            verdict.eachSays(Given.first(tcp, n), 1, "host 1.2.3.4", "net 1.2.3.4/9", "net 9.9.9.9/0");
            verdict.eachSays(Given.first(tcp, n), 0, "not host 1.2.3.4", "not net 1.2.3.4/9");
            verdict.eachSays(Given.first(tcp, n), -1, "host 5.6.7.8", "net 5.6.7.8/9", "not host 5.6.7.8", "host 9.9.9.9");
        }
        for (int n = 36; n <= 37; n++) {
            verdict.eachSays(Given.first(tcp, n), 1, "port 1000");
            verdict.eachSays(Given.first(tcp, n), 0, "not port 1000");
            verdict.eachSays(Given.first(tcp, n), -1, "port 80", "not port 80", "port 1", "port 1 or " + HOLDS);
        }
        verdict.eachSays(Given.first(tcp, 35), -1, "port 1000", "port 80");
        verdict.eachSays(Given.first(tcp, 29), -1, "host 1.2.3.4", "host 5.6.7.8");
    }

    private void oneEndAlone() {
        check.sentence("with src the source has to be it, with dst the target");
        int[] tcp = Given.tcp();
        verdict.eachSays(Given.first(tcp, 30), 0, "src host 5.6.7.8", "src net 5.6.7.8/8", "src host 9.9.9.9");
        verdict.eachSays(Given.first(tcp, 30), 1, "not src host 5.6.7.8", "src host 1.2.3.4", "src net 1.2.3.4/8");
        verdict.eachSays(Given.first(tcp, 30), -1, "dst host 1.2.3.4", "dst net 1.2.3.4/8", "dst net 0.0.0.0/0");
        verdict.eachSays(Given.first(tcp, 36), 0, "src port 80", "src port 1");
        verdict.eachSays(Given.first(tcp, 36), 1, "src port 1000", "not src port 80");
        verdict.eachSays(Given.first(tcp, 36), -1, "dst port 1000", "dst port 80");
    }

    private void protocolsAheadOfValues() {
        check.sentence("if one of these does not hold, nor does the relation, and no more is looked at");
        int[] noIp = Given.with(Given.tcp(), 12, 0);
        verdict.eachSays(noIp, 0, "ip[99]=0", "ip[0]/0=0", "1/0=ip[0]", "ip[ether[99]]=0", "ether[99]=ip[0]", "ether[ip[99]]=0", "ip[0]=1/0",
                "ether[99]+ip[0]=0", "tcp[99]=0", "tcp[0]/0=0", "udp[99]/0=0", "1/0*{ip[0]}>=0", "len/0=ether[ip[0]]");
        verdict.eachSays(noIp, -1, "ether[99]=0", "1/0=ether[0]", "ether[99]=0 or ip[0]=0");
        int[] udp = Given.udp();
        verdict.eachSays(udp, 0, "tcp[99]=0", "tcp[0]/0=0", "1/0=tcp[0]", "ether[99]=tcp[0]", "ether[tcp[99]]=0", "ip[99]=tcp[0]", "udp[99]=tcp[0]");
        verdict.eachSays(udp, 1, "not tcp[99]=0", "tcp[99]=0 or " + HOLDS);
        verdict.eachSays(udp, -1, "udp[99]=0", "udp[0]/0=0", "1/0=udp[0]", "ip[99]=udp[0]", "tcp[99]=0 or " + REJECTS);
        int[] tcp = Given.tcp();
        verdict.eachSays(tcp, 0, "udp[99]=0", "udp[0]/0=0", "tcp[99]=udp[0]", "ip[99]=udp[0]", "ether[99]*udp[0]=0");
        verdict.eachSays(tcp, -1, "tcp[99]=0", "tcp[0]/0=0", "ip[99]=tcp[0]");
        int[] part = Given.with(tcp, 20, 16);
        verdict.eachSays(part, 0, "tcp[99]=0", "tcp[0]/0=0", "1/0=tcp[0]", "ip[99]=tcp[0]");
        verdict.eachSays(part, -1, "ip[99]=0", "ip[0]/0=0", "ether[99]=0");
    }

    private void wholly() {
        check.sentence("(A value is worked out wholly.)");
        int[] packet = Given.tcp();
        verdict.eachSays(packet, -1, "0*{1/0}=0", "0*ether[60]=0", "ether[60]*0=0", "0&ether[60]=0", "ether[60]&0=0", "0/ether[60]=0",
                "4294967295|ether[60]>=0", "1<<32+ether[60]>=0", "ether[60]>>32=0", "0=0*ether[len]", "1=2+ether[99]", "{1/0}-{1/0}=0",
                "ether[60]-ether[60]=0", "ether[0*ether[60]]=0", "ether[60]>=0", "0<=ether[60]", "1/0=ether[60]", "ether[60]=ether[60]",
                "0*{0*{0*{1/0}}}=0", "tcp[0*tcp[99]]>=0");
    }
}
