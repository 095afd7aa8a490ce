/** Promises 9 and 10: what a filter says of a packet, asked at once and by its program. */
public final class HoldsTest {
    public static void main(String[] args) {
        Check check = new Check();
        protocols(check);
        addresses(check);
        ports(check);
        logic(check);
        relations(check);
        values(check);
        accesses(check);
        rejects(check);
        withoutFilter(check);
        check.finish();
    }

    private static void says(Check check, String text, int[] packet, int due) {
        PacketSieve sieve = Given.compiled(text);
        Given.packet(sieve, packet);
        check.due("holds() of \"" + text + "\"", due, sieve::holds);
        check.due("run() of \"" + text + "\"", due == 1 ? Given.SNAP : 0, sieve::run);
        check.due("holds() of \"" + text + "\" behind run()", due, sieve::holds);
    }

    private static int[] with(int[] packet, int place, int v) {
        int[] changed = packet.clone();
        changed[place] = v;
        return changed;
    }

    private static int[] first(int[] packet, int n) {
        return java.util.Arrays.copyOf(packet, n);
    }

    private static void protocols(Check check) {
        says(check, "ip", Given.tcp(), 1);
        says(check, "ip", with(Given.tcp(), 12, 9), 0);
        says(check, "ip", with(Given.tcp(), 13, 1), 0);
        says(check, "ip", first(Given.tcp(), 14), 1);
        says(check, "ip", first(Given.tcp(), 13), -1);
        says(check, "tcp", Given.tcp(), 1);
        says(check, "tcp", Given.udp(), 0);
        says(check, "tcp", first(Given.tcp(), 24), 1);
        says(check, "tcp", first(Given.tcp(), 23), -1);
        says(check, "tcp", first(with(Given.tcp(), 12, 0), 14), 0);
        says(check, "tcp", with(Given.tcp(), 21, 1), 1);
        says(check, "udp", Given.udp(), 1);
        says(check, "udp", Given.tcp(), 0);
        says(check, "udp", Given.ip(1, 5), 0);
        says(check, "udp", with(Given.udp(), 12, 0), 0);
    }

    private static void addresses(Check check) {
        int[] packet = Given.tcp();
        says(check, "host 1.2.3.4", packet, 1);
        says(check, "host 5.6.7.8", packet, 1);
        says(check, "host 1.2.3.5", packet, 0);
        says(check, "src host 1.2.3.4", packet, 1);
        says(check, "src host 5.6.7.8", packet, 0);
        says(check, "dst host 5.6.7.8", packet, 1);
        says(check, "dst host 1.2.3.4", packet, 0);
        says(check, "host 1.2.3.4", with(packet, 12, 0), 0);
        says(check, "host 1.2.3.4", first(packet, 30), 1);
        says(check, "host 5.6.7.8", first(packet, 33), -1);
        says(check, "src host 5.6.7.8", first(packet, 30), 0);
        says(check, "src host 1.2.3.4", first(packet, 29), -1);
        says(check, "dst host 5.6.7.8", first(packet, 33), -1);
        says(check, "host 255.254.253.252", with(with(with(with(packet, 30, 255), 31, 254), 32, 253), 33, 252), 1);
        says(check, "net 1.2.0.0/16", packet, 1);
        says(check, "net 1.2.9.9/16", packet, 1);
        says(check, "net 1.2.9.9/20", packet, 1);
        says(check, "net 1.2.9.9/21", packet, 0);
        says(check, "net 5.6.7.10/31", packet, 0);
        says(check, "net 5.6.7.9/30", packet, 1);
        says(check, "net 9.9.9.9/0", packet, 1);
        says(check, "net 9.9.9.9/1", packet, 1);
        says(check, "net 129.9.9.9/1", packet, 0);
        says(check, "net 1.2.3.4/32", packet, 1);
        says(check, "net 1.2.3.5/32", packet, 0);
        says(check, "src net 5.0.0.0/8", packet, 0);
        says(check, "dst net 5.0.0.0/8", packet, 1);
        says(check, "src net 1.0.0.0/8", packet, 1);
        says(check, "dst net 1.0.0.0/8", packet, 0);
        says(check, "net 9.9.9.9/0", with(packet, 12, 0), 0);
        says(check, "net 9.9.9.9/0", first(packet, 28), -1);
        says(check, "dst net 9.9.9.9/0", first(packet, 30), -1);
    }

    private static void ports(Check check) {
        int[] tcp = Given.tcp();
        says(check, "port 1000", tcp, 1);
        says(check, "port 80", tcp, 1);
        says(check, "port 81", tcp, 0);
        says(check, "src port 1000", tcp, 1);
        says(check, "src port 80", tcp, 0);
        says(check, "dst port 80", tcp, 1);
        says(check, "dst port 1000", tcp, 0);
        says(check, "dst port 80", Given.udp(), 1);
        says(check, "src port 1000", Given.udp(), 1);
        says(check, "port 80", Given.ip(1, 5), 0);
        says(check, "port 80", with(tcp, 12, 0), 0);
        says(check, "port 80", with(tcp, 21, 1), 0);
        says(check, "port 80", with(tcp, 20, 16), 0);
        says(check, "port 80", with(tcp, 20, 0xE0), 1);
        says(check, "port 80", Given.ip(6, 7), 1);
        says(check, "port 80", with(Given.ip(6, 7), 14, 0xF7), 1);
        says(check, "port 0", Given.ip(6, 11), 1);
        says(check, "port 5", Given.ip(6, 11), -1);
        says(check, "port 0", Given.ip(6, 12), -1);
        says(check, "port 80", first(tcp, 38), 1);
        says(check, "port 80", first(tcp, 37), -1);
        says(check, "port 1000", first(tcp, 36), 1);
        says(check, "src port 1", first(tcp, 36), 0);
        says(check, "src port 1000", first(tcp, 35), -1);
        says(check, "port 80", first(Given.ip(1, 5), 24), 0);
        says(check, "port 80", first(tcp, 23), -1);
        says(check, "port 80", first(with(tcp, 21, 1), 24), 0);
    }

    private static void logic(Check check) {
        int[] packet = Given.tcp();
        says(check, "ip and tcp", packet, 1);
        says(check, "ip and udp", packet, 0);
        says(check, "udp and ip", packet, 0);
        says(check, "udp or tcp", packet, 1);
        says(check, "udp or 1=2", packet, 0);
        says(check, "not udp", packet, 1);
        says(check, "not ip", packet, 0);
        says(check, "not not ip", packet, 1);
        says(check, "not udp and udp", packet, 0);
        says(check, "not(udp and udp)", packet, 1);
        says(check, "1=1 or 1=1 and 1=2", packet, 1);
        says(check, "(1=1 or 1=1) and 1=2", packet, 0);
        says(check, "1=2 and 1=1 or 1=1", packet, 1);
        says(check, "1=2 and (1=1 or 1=1)", packet, 0);
        says(check, "ip and not(udp or not tcp and ip)", packet, 1);
        says(check, Given.repeated("1=2", 31, "or") + "or ip", packet, 1);
        says(check, Given.repeated("not", 39, " ") + " ip", packet, 0);
    }

    private static void relations(Check check) {
        String[] signs = {"=", "!=", "<", ">", "<=", ">="};
        int[][] dues = {{0, 1, 0}, {1, 0, 1}, {1, 0, 0}, {0, 0, 1}, {1, 1, 0}, {0, 1, 1}};
        int[] packet = new int[7];
        for (int i = 0; i < signs.length; i++) {
            for (int other = 6; other <= 8; other++) {
                says(check, other + signs[i] + "7", packet, dues[i][other - 6]);
                says(check, other + signs[i] + "len", packet, dues[i][other - 6]);
            }
        }
        says(check, "4294967295>2147483647", packet, 1);
        says(check, "4294967295>len", packet, 1);
        says(check, "0-1>=len", packet, 1);
        says(check, "4294967295<0", packet, 0);
    }

    private static void values(Check check) {
        int[] packet = new int[9];
        String[] equal = {
            "1+2*3=7", "{1+2}*3=9", "10-3-2=5", "10-{3-2}=9", "100/5/2=10", "100/{5/2}=50", "7/2*2=6", "2*7/2=7",
            "1<<2+1=8", "{1<<2}+1=5", "256>>4>>2=4", "1<<4>>2=4", "1<<31=2147483648", "1<<32=0", "3<<31=2147483648",
            "4294967295>>31=1", "4294967295>>32=0", "1<<4294967295=0", "4294967295>>4294967295=0", "5<<0=5", "1>>33=0",
            "1<<len=512", "1<<{len*4}=0", "1024>>len=2", "1024>>{len*9}=0", "1<<64=0", "1>>64=0",
            "6&3|8=10", "8|6&3=10", "12&10=8", "12|10=14", "1|2<<1=5", "3&2+1=3", "6&{2|4}=6", "1+1&2=2",
            "4294967295+1=0", "4294967295+4294967295=4294967294", "0-1=4294967295", "3-5+2=0", "65536*65536=0",
            "4294967295*4294967295=1", "4294967295*len=4294967287", "4294967295/2=2147483647",
            "4294967295/4294967294=1", "2147483648/4294967295=0", "0/5=0", "len=9", "len-len=0", "len/2=4", "81/len=len",
            "len-1-len=4294967295", "len*len+len=90", "{{{len}}}=9", "00000000000009=len", "len|len&0=len",
        };
        for (String text : equal) {
            says(check, text, packet, 1);
            says(check, text.replace("=", "!="), packet, 0);
        }
    }

    private static void accesses(Check check) {
        int[] packet = new int[60];
        for (int i = 0; i < 60; i++) {
            packet[i] = 100 + i;
        }
        packet[12] = 8;
        packet[13] = 0;
        packet[14] = 0x46;
        packet[20] = 0;
        packet[21] = 0;
        packet[23] = 6;
        says(check, "ether[0]=100", packet, 1);
        says(check, "ether[0:1]=100", packet, 1);
        says(check, "ether[0:2]=25701", packet, 1);
        says(check, "ether[56:4]=2627575455", packet, 1);
        says(check, "ether[len-4:4]=2627575455", packet, 1);
        says(check, "ether[59]=159", packet, 1);
        says(check, "ether[len-1]=159", packet, 1);
        says(check, "ip[1]=115", packet, 1);
        says(check, "ip[45]=159", packet, 1);
        says(check, "ip[len-15]=159", packet, 1);
        says(check, "ip[4294967294]=8", packet, 1);
        says(check, "ip[0-1]=0", packet, 1);
        says(check, "tcp[0]=138", packet, 1);
        says(check, "tcp[1:2]=35724", packet, 1);
        says(check, "tcp[len-len+1:2]=35724", packet, 1);
        says(check, "tcp[4294967295]=137", packet, 1);
        says(check, "tcp[0-38]=100", packet, 1);
        says(check, "tcp[ip[0]&15]=144", packet, 1);
        says(check, "ether[ether[ether[23]*2]&15]=108 or ether[{12}]=8", packet, 1);
        says(check, "tcp[0]-ip[1]=23", packet, 1);
        says(check, "udp[0]=138", packet, 0);
        says(check, "udp[0]!=1", packet, 0);
        says(check, "not udp[0]=1", packet, 1);
        says(check, "udp[0]=138", with(packet, 23, 17), 1);
        says(check, "tcp[0]=138", with(packet, 23, 17), 0);
        says(check, "tcp[0]=udp[0]", packet, 0);
        says(check, "tcp[0]=udp[0]", with(packet, 23, 17), 0);
        says(check, "1=1 or ip[99]=1", with(packet, 12, 9), 1);
        says(check, "ip[99]=1", with(packet, 12, 9), 0);
        says(check, "ether[ip[0]-70]<999", packet, 1);
        says(check, "ether[ip[0]-70]<999", with(packet, 12, 9), 0);
        says(check, "ether[tcp[99]]<999", with(packet, 23, 1), 0);
        says(check, "tcp[99]<999", with(packet, 21, 1), 0);
        says(check, "tcp[99]<999", with(packet, 20, 31), 0);
        says(check, "tcp[0]=138", with(packet, 20, 0xE0), 1);
        says(check, "ip[0]=70", with(packet, 21, 1), 1);
    }

    private static void rejects(Check check) {
        int[] packet = Given.tcp();
        says(check, "1/0=0", packet, -1);
        says(check, "1/0!=0", packet, -1);
        says(check, "not 1/0=0", packet, -1);
        says(check, "1=1 or 1/0=0", packet, 1);
        says(check, "1=2 or 1/0=0", packet, -1);
        says(check, "1/0=0 or 1=1", packet, -1);
        says(check, "1/0=0 and 1=2", packet, -1);
        says(check, "1=2 and 1/0=0", packet, 0);
        says(check, "1=1 and 1/0=0", packet, -1);
        says(check, "not(1=2 and 1/0=0)", packet, 1);
        says(check, "1/{len-len}=0", packet, -1);
        says(check, "1={len/{len-len}}*0", packet, -1);
        says(check, "0*{1/0}=0", packet, -1);
        says(check, "ether[60]=0", packet, -1);
        says(check, "ether[59:2]=0", packet, -1);
        says(check, "ether[57:4]=0", packet, -1);
        says(check, "ether[4294967295:4]=0", packet, -1);
        says(check, "ether[4294967295:4]*0=0", packet, -1);
        says(check, "ether[0-1:2]=0", packet, -1);
        says(check, "ether[2147483648]=0", packet, -1);
        says(check, "ether[len]=0", packet, -1);
        says(check, "len=ether[len]", packet, -1);
        says(check, "ip[46]=0", packet, -1);
        says(check, "tcp[26]=0", packet, -1);
        says(check, "tcp[25:2]=0", packet, -1);
        says(check, "not tcp[26]=0", packet, -1);
        says(check, "ether[0]=0", new int[0], -1);
        says(check, "len=0", new int[0], 1);
        says(check, "udp[99]=1 or 1/0=0", packet, -1);
        says(check, "tcp[0]=1", first(packet, 23), -1);
        says(check, "tcp[0]=1", first(packet, 24), -1);
        says(check, "udp[0]=1", first(packet, 24), 0);
        says(check, "udp[0]=tcp[0]", first(packet, 34), 0);
    }

    private static void withoutFilter(Check check) {
        PacketSieve sieve = Given.typed("ip");
        check.due("holds() of what is only typed", Given.EARLY, sieve::holds);
        check.due("run() of what is only typed", Given.EARLY, sieve::run);
        Given.type(sieve, " or");
        check.due("compile() of no filter", Given.BAD, sieve::compile);
        check.due("holds() behind it", Given.EARLY, sieve::holds);
        check.due("run() behind it", Given.EARLY, sieve::run);
        sieve.clear();
        Given.type(sieve, Given.repeated("port 1", 15, " or "));
        check.due("compile() of a filter that is too long", Given.TOO_LONG, sieve::compile);
        check.due("holds() behind it", Given.EARLY, sieve::holds);
        check.due("run() behind it", Given.EARLY, sieve::run);
    }
}
