/** Promises 9 and 10, with the words under "Terms": the fields of a packet, and where it ends. */
public final class FieldsTest {
    private final Check check = new Check();
    private final Verdict verdict = new Verdict(check);

    public static void main(String[] args) {
        new FieldsTest().test();
    }

    private void test() {
        firstHighest();
        etherAtTheEnd();
        etherFarOutside();
        ipAtTheEnd();
        ipWrapsAround();
        headersAtTheEnd();
        headersWrapAround();
        typeAtTheEnd();
        protocolAtTheEnd();
        addressesAtTheEnd();
        portsAtTheEnd();
        emptyPacket();
        cutPacket();
        whatIsIp();
        whatIsTcpOrUdp();
        whatIsWhole();
        whatIsHead();
        hosts();
        nets();
        ports();
        check.finish();
    }

    /** Its bytes tell their places: 100 + place; but it is one of ip, whole, and has a header of 4 * words bytes. */
    private static int[] counted(int protocol, int words) {
        int[] packet = new int[80];
        for (int i = 0; i < packet.length; i++) {
            packet[i] = 100 + i;
        }
        packet[12] = 8;
        packet[13] = 0;
        packet[14] = 0xA0 | words;
        packet[20] = 0;
        packet[21] = 0;
        packet[23] = protocol;
        return packet;
    }

    private static String field(int[] packet, int place, int size) {
        long number = 0;
        for (int i = 0; i < size; i++) {
            number = number * 256 + packet[place + i];
        }
        return Long.toString(number);
    }

    private void firstHighest() {
        check.sentence("FIELD(p, s) are the s bytes from place p on, as a number, the first one highest");
        int[] packet = {1, 2, 3, 4, 255, 254, 253, 252};
        verdict.eachSays(packet, 1, "ether[0]=1", "ether[0:1]=1", "ether[0:2]=258", "ether[0:4]=16909060", "ether[1:2]=515", "ether[4]=255",
                "ether[4:2]=65534", "ether[4:4]=4294901244", "ether[3:4]=83885821", "ether[7]=252", "ether[6:2]=65020", "ether[len-8]=1",
                "ether[len-8:2]=258", "ether[len-4:4]=4294901244", "ether[2]=3");
    }

    private void etherAtTheEnd() {
        check.sentence("a FIELD that isn't wholly within the packet REJECTS the packet (ether)");
        int[] packet = counted(6, 5);
        for (int size = 1; size <= 4; size *= 2) {
            for (int n : new int[] {1, 2, 3, 4, 5, 40, 79, 80}) {
                for (int place = 0; place <= n; place += place < n - 5 && place > 1 ? 7 : 1) {
                    boolean within = place + size <= n;
                    String due = within ? field(packet, place, size) : "0";
                    String ends = ":" + size + "]=" + due;
                    verdict.says("ether[" + place + ends, Given.first(packet, n), within ? 1 : -1);
                    verdict.says("ether[len-" + (n - place) + ends, Given.first(packet, n), within ? 1 : -1);
                    verdict.says("not ether[" + place + ends, Given.first(packet, n), within ? 0 : -1);
                }
            }
        }
        verdict.eachSays(packet, -1, "ether[80]=0", "ether[len]=0", "ether[81]=0", "ether[79:2]=0", "ether[77:4]=0", "ether[78:4]!=0",
                "len=ether[len]", "0*ether[80]=0");
    }

    private void etherFarOutside() {
        check.sentence("a FIELD that isn't wholly within the packet REJECTS the packet (far behind it)");
        int[] packet = counted(6, 5);
        String[] places = {"255", "256", "257", "336", "65536", "65537", "2147483567", "2147483647", "2147483648", "2147483649", "4294967216",
            "4294967280", "4294967282", "4294967292", "4294967293", "4294967294", "4294967295"};
        for (String place : places) {
            for (String size : new String[] {"", ":2", ":4"}) {
                verdict.eachSays(packet, -1, "ether[" + place + size + "]>=0", "ether[" + place + "+0" + size + "]>=0");
                verdict.says("ether[{len-80}+" + place + size + "]>=0", packet, -1);
            }
        }
        verdict.eachSays(packet, -1, "ether[0-1]>=0", "ether[0-1:2]>=0", "ether[0-2:4]>=0", "ether[0-80]>=0", "ether[len-81]>=0");
        verdict.eachSays(packet, 1, "ether[4294967295+1]=100", "ether[65536*65536]=100", "ether[len-80]=100", "ether[0-1+2]=101");
    }

    private void ipAtTheEnd() {
        check.sentence("ip[i : s] is FIELD(14 + i, s)");
        int[] packet = counted(6, 5);
        for (int size = 1; size <= 4; size *= 2) {
            for (int n : new int[] {15, 16, 17, 18, 19, 79, 80}) {
                for (int index = n < 20 ? 0 : n - 20; index <= n - 14; index++) {
                    boolean within = 14 + index + size <= n;
                    String ends = ":" + size + "]=" + (within ? field(packet, 14 + index, size) : "0");
                    verdict.says("ip[" + index + ends, Given.first(packet, n), within ? 1 : -1);
                    verdict.says("ip[len-" + (n - index) + ends, Given.first(packet, n), within ? 1 : -1);
                }
            }
        }
        verdict.eachSays(packet, -1, "ip[66]=0", "ip[65:2]=0", "ip[63:4]=0", "ip[len-14]=0");
        verdict.eachSays(Given.first(packet, 14), -1, "ip[0]=0", "ip[0:2]=0", "ip[0:4]=0");
    }

    private void ipWrapsAround() {
        check.sentence("ip[i : s] is FIELD(14 + i, s) (these sums keep 32 bits)");
        int[] packet = counted(6, 5);
        for (int back = 1; back <= 14; back++) {
            String due = Integer.toString(packet[14 - back]);
            String index = Long.toString(4294967296L - back);
            verdict.eachSays(packet, 1, "ip[" + index + "]=" + due, "ip[0-" + back + "]=" + due, "ip[{len-80}+" + index + "]=" + due);
        }
        verdict.eachSays(packet, 1, "ip[4294967282:4]=1684366951", "ip[0-14:2]=25701", "ip[4294967294:2]=2048");
        verdict.eachSays(packet, -1, "ip[4294967281]>=0", "ip[4294967281:2]>=0", "ip[4294967281:4]>=0", "ip[4294967279:4]>=0", "ip[0-15]>=0",
                "ip[0-15:2]>=0", "ip[0-15:4]>=0", "ip[2147483648]>=0", "ip[2147483634]>=0", "ip[2147483633]>=0");
    }

    private void headersAtTheEnd() {
        check.sentence("tcp and udp FIELD(14 + HEAD + i, s)");
        for (int words = 0; words <= 15; words++) {
            int start = 14 + 4 * words;
            for (String name : new String[] {"tcp", "udp"}) {
                int[] packet = counted(name.equals("tcp") ? 6 : 17, words);
                for (int size = 1; size <= 4; size *= 2) {
                    int last = 80 - size - start;
                    String due = field(packet, 80 - size, size);
                    String first = field(packet, start, size);
                    verdict.eachSays(packet, 1, name + "[0:" + size + "]=" + first, name + "[len-80:" + size + "]=" + first,
                            name + "[" + last + ":" + size + "]=" + due, name + "[len-" + (80 - last) + ":" + size + "]=" + due);
                    verdict.eachSays(packet, -1, name + "[" + (last + 1) + ":" + size + "]>=0", name + "[len-" + (79 - last) + ":" + size + "]>=0");
                }
            }
        }
        int[] tcp = counted(6, 5);
        verdict.says("tcp[0:4]>=0", Given.first(tcp, 38), 1);
        verdict.says("tcp[0:4]>=0", Given.first(tcp, 37), -1);
        verdict.says("tcp[0]>=0", Given.first(tcp, 34), -1);
        verdict.says("tcp[0]>=0", Given.first(tcp, 35), 1);
        verdict.says("tcp[0]>=0", Given.first(tcp, 24), -1);
        verdict.says("udp[0]>=0", Given.first(tcp, 24), 0);
    }

    private void headersWrapAround() {
        check.sentence("tcp and udp FIELD(14 + HEAD + i, s) (these sums keep 32 bits)");
        for (String name : new String[] {"tcp", "udp"}) {
            int[] packet = counted(name.equals("tcp") ? 6 : 17, 6);
            for (int back = 1; back <= 38; back++) {
                String due = "]=" + packet[38 - back];
                verdict.eachSays(packet, 1, name + "[" + (4294967296L - back) + due, name + "[0-" + back + due);
            }
            verdict.eachSays(packet, 1, name + "[4294967258:4]=1684366951", name + "[0-38:2]=25701");
            verdict.eachSays(packet, -1, name + "[4294967257]>=0", name + "[4294967257:2]>=0", name + "[4294967255:4]>=0", name + "[0-39]>=0",
                    name + "[0-39:4]>=0", name + "[2147483648]>=0", name + "[2147483610]>=0", name + "[2147483609]>=0");
        }
    }

    private void typeAtTheEnd() {
        check.sentence("a FIELD that isn't wholly within the packet REJECTS the packet (FIELD(12, 2))");
        String[] texts = {"ip", "not ip", "tcp", "udp", "host 1.2.3.4", "src net 1.2.3.4/0", "port 1", "ip[0]=1", "tcp[0]=1", "not udp[0]=1"};
        for (int n = 0; n <= 13; n++) {
            verdict.eachSays(Given.first(Given.tcp(), n), -1, texts);
            verdict.eachSays(new int[n], -1, texts);
        }
        verdict.says("ip", Given.first(Given.tcp(), 14), 1);
        verdict.says("not ip", Given.first(Given.tcp(), 14), 0);
        verdict.eachSays(new int[14], 0, "ip", "tcp", "udp", "host 1.2.3.4", "src net 1.2.3.4/0", "port 1", "ip[0]=1", "tcp[0]=1");
    }

    private void protocolAtTheEnd() {
        check.sentence("a FIELD that isn't wholly within the packet REJECTS the packet (FIELD(23, 1))");
        for (int n = 14; n <= 23; n++) {
            verdict.eachSays(Given.first(Given.tcp(), n), -1, "tcp", "udp", "not tcp", "port 80", "src port 1", "dst port 1", "tcp[0]=1", "udp[0]=1",
                    "1=tcp[0]", "ether[udp[0]]=1");
        }
        verdict.says("tcp", Given.first(Given.tcp(), 24), 1);
        verdict.says("udp", Given.first(Given.tcp(), 24), 0);
        verdict.says("udp", Given.first(Given.udp(), 24), 1);
    }

    private void addressesAtTheEnd() {
        check.sentence("a FIELD that isn't wholly within the packet REJECTS the packet (SOURCE, TARGET)");
        for (int n = 14; n <= 29; n++) {
            verdict.eachSays(Given.first(Given.tcp(), n), -1, "host 1.2.3.4", "src host 1.2.3.4", "dst host 5.6.7.8", "net 1.2.3.4/8",
                    "src net 1.2.3.4/0", "dst net 5.6.7.8/0", "net 1.2.3.4/0");
        }
        for (int n = 30; n <= 33; n++) {
            verdict.eachSays(Given.first(Given.tcp(), n), 1, "host 1.2.3.4", "src host 1.2.3.4", "net 1.9.9.9/8", "src net 9.9.9.9/0");
            verdict.eachSays(Given.first(Given.tcp(), n), 0, "src host 1.2.3.5", "src host 5.6.7.8", "src net 2.2.3.4/8");
            verdict.eachSays(Given.first(Given.tcp(), n), -1, "host 5.6.7.8", "host 1.2.3.5", "dst host 5.6.7.8", "dst host 1.2.3.4", "net 5.6.7.8/8",
                    "dst net 9.9.9.9/0");
        }
        verdict.eachSays(Given.first(Given.tcp(), 34), 1, "host 5.6.7.8", "dst host 5.6.7.8", "net 5.9.9.9/8", "dst net 9.9.9.9/0");
        verdict.eachSays(Given.first(Given.tcp(), 34), 0, "host 1.2.3.5", "dst host 1.2.3.4", "net 6.9.9.9/8");
    }

    private void portsAtTheEnd() {
        check.sentence("a FIELD that isn't wholly within the packet REJECTS the packet (ports)");
        for (int words = 5; words <= 10; words++) {
            int source = 14 + 4 * words;
            for (int protocol = 6; protocol <= 17; protocol += 11) {
                int[] packet = Given.ip(protocol, words);
                for (int n = 24; n < source + 2; n++) {
                    verdict.eachSays(Given.first(packet, n), -1, "port 1000", "src port 1000", "dst port 80", "port 80");
                }
                for (int n = source + 2; n < source + 4; n++) {
                    verdict.eachSays(Given.first(packet, n), 1, "port 1000", "src port 1000");
                    verdict.says("src port 999", Given.first(packet, n), 0);
                    verdict.eachSays(Given.first(packet, n), -1, "port 80", "dst port 80", "dst port 1000", "port 999");
                }
                verdict.eachSays(Given.first(packet, source + 4), 1, "port 80", "dst port 80");
                verdict.eachSays(Given.first(packet, source + 4), 0, "port 999", "dst port 999");
            }
        }
    }

    private void emptyPacket() {
        check.sentence("a FIELD that isn't wholly within the packet REJECTS the packet (an empty packet)");
        verdict.eachSays(Given.EMPTY, -1, "ether[0]=0", "ether[0:4]=0", "ether[len]=0", "ip", "not tcp", "port 0", "net 0.0.0.0/0", "ip[0]=0",
                "tcp[0]=0", "udp[len]=0", "ip[4294967282]=0");
        verdict.eachSays(Given.EMPTY, 1, "len=0", "1=1", "1=1 or ip");
    }

    private void cutPacket() {
        check.sentence("a FIELD that isn't wholly within the packet REJECTS the packet (one that was cut)");
        Sieve sieve = Given.compiled("ether[7]=8 or ether[3]=4", 1, 2, 3, 4, 5, 6, 7, 8);
        check.due("holds() of 8 bytes", 1, sieve::holds);
        sieve.cut(7);
        check.due("holds() of 7 bytes", -1, sieve::holds);
        check.due("run() over 7 bytes", 0, sieve::run);
        sieve.put(9, 1);
        check.due("holds() of 8 bytes again", 1, sieve::holds);
        check.due("run() over 8 bytes again", Given.SNAP, sieve::run);
    }

    private void whatIsIp() {
        check.sentence("IP: FIELD(12, 2) is 2048");
        int[] packet = Given.tcp();
        for (int bit = 0; bit < 16; bit++) {
            int place = bit < 8 ? 12 : 13;
            int[] other = Given.with(packet, place, packet[place] ^ 128 >> bit % 8);
            verdict.eachSays(other, 0, "ip", "tcp", "host 1.2.3.4", "net 0.0.0.0/0", "port 80", "ip[0]>=0", "tcp[0]>=0", "ether[ip[0]]>=0",
                    "1=2 or ip", "src port 1000", "dst host 5.6.7.8");
            verdict.eachSays(other, 1, "not ip", "ether[0]>=0", "not tcp", "not ip[0]>=0");
        }
        verdict.eachSays(packet, 1, "ip", "tcp", "host 1.2.3.4", "net 0.0.0.0/0", "port 80", "ip[0]>=0", "tcp[0]>=0");
    }

    private void whatIsTcpOrUdp() {
        check.sentence("TCP: IP, and FIELD(23, 1) is 6. UDP: likewise 17");
        for (int protocol = 0; protocol <= 255; protocol++) {
            int[] packet = Given.ip(protocol, 5);
            int tcp = protocol == 6 ? 1 : 0;
            int udp = protocol == 17 ? 1 : 0;
            verdict.eachSays(packet, tcp, "tcp", "tcp[0]>=0");
            verdict.eachSays(packet, udp, "udp", "udp[0]>=0");
            verdict.eachSays(packet, tcp + udp, "port 80", "src port 1000", "dst port 80");
            verdict.eachSays(packet, 0, "tcp and udp", "tcp[0]=udp[0]");
        }
    }

    private void whatIsWhole() {
        check.sentence("WHOLE: FIELD(20, 2) & 8191 is 0");
        for (int bit = 0; bit < 16; bit++) {
            int due = bit < 3 ? 1 : 0;
            int place = bit < 8 ? 20 : 21;
            int[] tcp = Given.with(Given.tcp(), place, 128 >> bit % 8);
            int[] udp = Given.with(Given.udp(), place, 128 >> bit % 8);
            verdict.eachSays(tcp, due, "port 80", "src port 1000", "dst port 80", "tcp[0]>=0", "ether[tcp[0]]>=0");
            verdict.eachSays(udp, due, "port 80", "src port 1000", "dst port 80", "udp[0]>=0", "ether[udp[0]]>=0");
            verdict.eachSays(tcp, 1, "tcp", "ip", "host 1.2.3.4", "ip[0]>=0", "not udp");
            verdict.eachSays(udp, 1, "udp", "net 5.6.7.8/32", "ip[9]=17");
        }
        verdict.eachSays(Given.with(Given.with(Given.tcp(), 20, 255), 21, 255), 0, "port 80", "tcp[0]>=0");
        verdict.eachSays(Given.with(Given.tcp(), 20, 0xE0), 1, "port 80", "tcp[0]>=0");
    }

    private void whatIsHead() {
        check.sentence("HEAD is 4 * (FIELD(14, 1) & 15)");
        for (int first = 0; first <= 255; first++) {
            int[] packet = counted(6, 0);
            packet[14] = first;
            int ports = 14 + 4 * (first & 15);
            String source = field(packet, ports, 2);
            String target = field(packet, ports + 2, 2);
            Sieve sieve = Given.compiled("src port " + source + " and dst port " + target + " and tcp[0:2]=" + source);
            verdict.says(sieve, "the ports behind " + first, packet, 1);
            verdict.says(sieve, "the ports behind " + (first ^ 1), Given.with(packet, 14, first ^ 1), 0);
        }
    }

    private void hosts() {
        check.sentence("host: IP, and FIELD(26, 4) (SOURCE) or FIELD(30, 4) (TARGET) is the address");
        int[] packet = Given.tcp();
        verdict.eachSays(packet, 1, "host 1.2.3.4", "host 5.6.7.8", "src host 1.2.3.4", "dst host 5.6.7.8");
        verdict.eachSays(packet, 0, "src host 5.6.7.8", "dst host 1.2.3.4", "host 2.3.4.5", "host 4.3.2.1", "host 3.4.5.6", "host 1.2.7.8");
        for (int i = 0; i < 4; i++) {
            for (int bit = 1; bit <= 128; bit *= 2) {
                verdict.eachSays(Given.with(packet, 26 + i, packet[26 + i] ^ bit), 0, "host 1.2.3.4", "src host 1.2.3.4");
                verdict.eachSays(Given.with(packet, 30 + i, packet[30 + i] ^ bit), 0, "host 5.6.7.8", "dst host 5.6.7.8");
            }
        }
        int[] high = Given.tcp();
        for (int i = 26; i < 34; i++) {
            high[i] = 255;
        }
        verdict.eachSays(high, 1, "host 255.255.255.255", "src host 255.255.255.255", "dst host 255.255.255.255");
        verdict.eachSays(high, 0, "host 127.255.255.255", "host 255.255.255.254", "host 0.0.0.0");
        verdict.says("host 0.0.0.0", Given.with(Given.with(Given.with(Given.with(high, 30, 0), 31, 0), 32, 0), 33, 0), 1);
    }

    private void nets() {
        check.sentence("net: likewise, but both & the MASK (n bits that are 1, from the highest on)");
        for (int n = 0; n <= 32; n++) {
            for (int bit = 0; bit < 32; bit++) {
                int[] numbers = {1, 2, 3, 4};
                numbers[bit / 8] ^= 128 >> bit % 8;
                String net = "net " + numbers[0] + "." + numbers[1] + "." + numbers[2] + "." + numbers[3] + "/" + n;
                verdict.says("src " + net, Given.tcp(), bit < n ? 0 : 1);
                int[] turned = Given.tcp();
                System.arraycopy(Given.tcp(), 26, turned, 30, 4);
                // Below 2 bits nothing is left that could be neither the net nor the other one.
                turned[26] = n < 2 ? 1 : 201;
                verdict.says("dst " + net, turned, bit < n ? 0 : 1);
                verdict.says(net, turned, bit < n ? 0 : 1);
            }
        }
        verdict.eachSays(Given.with(Given.tcp(), 12, 0), 0, "net 0.0.0.0/0", "src net 0.0.0.0/0", "dst net 0.0.0.0/0");
    }

    private void ports() {
        check.sentence("port: FIELD(14 + HEAD, 2) or FIELD(16 + HEAD, 2) is n");
        for (int port : new int[] {0, 1, 255, 256, 257, 32767, 32768, 65534, 65535}) {
            for (int words = 5; words <= 10; words++) {
                int[] packet = Given.ip(17, words);
                int place = 14 + 4 * words;
                packet[place] = port >> 8;
                packet[place + 1] = port & 255;
                packet[place + 2] = 0xAB;
                packet[place + 3] = 0xCD;
                verdict.eachSays(packet, 1, "port " + port, "src port " + port, "port 43981", "dst port 43981");
                verdict.eachSays(packet, 0, "dst port " + port, "src port 43981", "port " + (port ^ 1), "port " + (port ^ 32768), "port 52651");
            }
        }
    }
}
