/** Promise 4: compile, and so what is a filter and what is none. */
public final class CompileTest {
    private static final String[] FILTERS = {
        "ip", "tcp", "udp", " ip ", "(ip)", "( ip )", "not ip", "not not ip", "not(ip)", "ip and tcp", "ip or tcp",
        "ip and tcp or udp", "not(ip or tcp)and udp", "host 1.2.3.4", "src host 0.0.0.0", "dst host 255.255.255.255",
        "host1.2.3.4", "host 1 . 2 . 3 . 4", "host 001.02.0003.4", "net 1.2.3.4/0", "src net 1.2.3.4/32",
        "dst net 1.2.3.4 / 07", "port 0", "port 65535", "src port 1", "dst port 000000000000000000001", "port80or port81",
        "1=1", "1!=1", "1<1", "1>1", "1<=1", "1>=1", "1 = 1", "len=0", "4294967295=0", "00000000004294967295=0",
        "{1}=1", "{{1}}={1}", "1+2*3=7", "1|2&3<<4>>5+6-7*8/9=0", "len*len=len", "{1+2}*3=9", "1=1or 1=2and 1=3",
        "ether[0]=1", "ip[0]=1", "tcp[0]=1", "udp[0]=1", "ip [0] = 1", "ip[0:1]=1", "ip[0:2]=1", "ip[0:4]=1",
        "ip[0:04]=1", "ip[len:2]=ip[ip[0]:1]", "ether[{len}]=0", "(ip[0]=1)", "not ip[0]=1", "1<{2<<3}", "1<<2<3",
        "1=1and(ip or not udp)", "tcp[tcp[12]/4*4:4]&4294901760>udp[len-1]",
        "((((((((ip))))))))", "{{{{{{{{1}}}}}}}}=1", "1={{{{{{{{1}}}}}}}}",
        "ip[ip[ip[ip[ip[ip[ip[ip[0]]]]]]]]=1", "(({{ip[ip[{{1}}]]}}=1))", "((((((((ip))))))))or((((((((ip))))))))",
    };

    private static final String[] NO_FILTERS = {
        "", " ", "i p", "IP", "ipx", "ne", "foo", "notip", "not", "ip and", "and ip", "ip or", "or", "ip ip", "ip tcp",
        "()", "(ip", "ip)", "(ip))", "(", ")", "(1)=1", "{ip}", "{1=1}", "ip or or ip", "not and ip", "ip not tcp",
        "host", "host 1.2.3", "host 1.2.3.256", "host 256.0.0.0", "host 1.2.3.4.5", "host 1,2,3,4", "host 1.2.3.4/8",
        "src", "dst", "src ip", "src 1.2.3.4", "src dst port 1", "dst tcp", "src 1=1", "host ip", "host 1.256.3.4",
        "net 1.2.3.4", "net 1.2.3.4/33", "net 1.2.3.4/", "net 1.2.3/8", "net 1.2.3.4/8/2", "net 300.0.0.0/8",
        "port", "port 65536", "port 4294967296", "port -1", "port len", "port {1}", "port 1 2", "srcport 1",
        "1", "len", "1=", "=1", "1=1=1", "1==1", "1=>1", "1=<1", "1< <2", "1! =2", "1> =2", "1<>2", "1!2", "1~2", "1<<2",
        "1>>=1", "1<<=1", "-1=1", "1=-1", "1+=1", "1++1=1", "1+*1=1", "1&&1=1", "1||1=1", "1%2=1", "1^1=1", "!ip",
        "4294967296=0", "1=4294967296", "99999999999999999999999999=0", "18446744073709551617=1", "0x1=1", "1.0=1",
        "{}=1", "{1=1", "1}=1", "{1}}=1", "{1)=1", "(1=1}", "ether", "ether=1", "ip=1", "ip[]=1", "ip[0]", "ip[0=1",
        "ip 0]=1", "ip[0:0]=1", "ip[0:3]=1", "ip[0:5]=1", "ip[0:8]=1", "ip[0:]=1", "ip[:1]=1", "ip[0:{1}]=1",
        "ip[0:len]=1", "ip[0:1:1]=1", "ip[0)=1", "ip[0]0=1", "len[0]=1", "host[0]=1", "(ip)[0]=1", "ip[ip]=1", "len len=1",
        "1 2=3", "ip[0][0]=1", "ip[1=1]=1", "1=1 1=1", "1=1)", "ip[0:4294967296]=1", "ip[0:4294967297]=1",
        "(((((((((ip)))))))))", "{{{{{{{{{1}}}}}}}}}=1", "1={{{{{{{{{1}}}}}}}}}",
        "ip[ip[ip[ip[ip[ip[ip[ip[ip[0]]]]]]]]]=1", "(({{ip[ip[{{{1}}}]]}}=1))", "((((((((1={1}))))))))",
        "ip#", "ip\"", "ip;tcp", "ip~", "ip_tcp", "ip,tcp", "ip\\", "@ip", "tcp $", "1='1'",
    };

    public static void main(String[] args) {
        Check check = new Check();
        for (String text : FILTERS) {
            PacketSieve sieve = Given.typed(text);
            check.same("\"" + text + "\" is a filter", false, Check.answer(sieve::compile).startsWith("throws"));
            check.due("clear() behind \"" + text + "\"", 0, sieve::clear);
        }
        for (String text : NO_FILTERS) {
            PacketSieve sieve = Given.typed(text);
            check.due("compile() of \"" + text + "\"", Given.BAD, sieve::compile);
            check.due("clear() behind \"" + text + "\"", text.length(), sieve::clear);
        }
        counts(check);
        tooLong(check);
        staysOnRefusal(check);
        check.finish();
    }

    private static void compiles(Check check, String text, Object due) {
        check.due("compile() of \"" + text + "\"", due, Given.typed(text)::compile);
    }

    private static void counts(Check check) {
        compiles(check, "ip", 4);
        compiles(check, "udp", 6);
        compiles(check, "not tcp", 6);
        compiles(check, "src host 1.2.3.4", 6);
        compiles(check, "host 1.2.3.4", 8);
        compiles(check, "net 1.2.3.4/8", 10);
        compiles(check, "dst net 1.2.3.4/8", 7);
        compiles(check, "port 1", 14);
        compiles(check, "src port 1", 12);
        compiles(check, "{{1}}={{2}}", 4);
        compiles(check, Given.repeated("1", 78, "+") + "=11", 81);
    }

    private static void tooLong(Check check) {
        compiles(check, Given.repeated("len", 17, "+") + "=1", 68);
        compiles(check, Given.repeated("len", 18, "+") + "=1", Given.TOO_LONG);
        compiles(check, Given.repeated("len", 16, "+") + "=len", 67);
        compiles(check, Given.repeated("len", 17, "+") + "=len", Given.TOO_LONG);
        compiles(check, "1=" + Given.repeated("len", 17, "-"), 71);
        compiles(check, "1=" + Given.repeated("len", 18, "-"), Given.TOO_LONG);
        compiles(check, "ether[len]+" + Given.repeated("len", 16, "+") + "=1", 70);
        compiles(check, "tcp[0]+" + Given.repeated("len", 15, "+") + "=1", 76);
        compiles(check, "tcp[0]+" + Given.repeated("len", 16, "+") + "=1", Given.TOO_LONG);
        compiles(check, "udp[0]+" + Given.repeated("len", 16, "+") + "=1", Given.TOO_LONG);
        String ports = Given.repeated("port 1", 12, " or ");
        compiles(check, ports, 146);
        compiles(check, ports + " or tcp", 150);
        compiles(check, ports + " or 1+1+1=1", 150);
        compiles(check, ports + " or 1+1+1+1=1", Given.TOO_LONG);
        compiles(check, "not(" + ports + " and src host 1.1.1.1)", 150);
        compiles(check, ports + " and dst net 1.1.1.1/1", Given.TOO_LONG);
        compiles(check, Given.repeated("port 1", 15, "and ") + "and", Given.BAD);
        compiles(check, Given.repeated("len", 18, "+") + "=1)", Given.BAD);
    }

    private static void staysOnRefusal(Check check) {
        PacketSieve sieve = Given.compiled("len=0");
        String[] refused = {"tcp or", Given.repeated("port 1", 15, " or "), "(udp[0]=1", Given.repeated("len", 20, "*") + "=1"};
        for (String text : refused) {
            Given.type(sieve, text);
            check.same("\"" + text + "\" is refused", true, Check.answer(sieve::compile).startsWith("throws"));
            check.same("\"" + text + "\" is refused again", true, Check.answer(sieve::compile).startsWith("throws"));
            check.due("holds() by the filter before", 1, sieve::holds);
            check.due("run() of the program before", Given.SNAP, sieve::run);
            check.due("instruction(1, 0) of it", 40, () -> sieve.instruction(1, 0));
            check.due("instruction(4, 0) of it", -1, () -> sieve.instruction(4, 0));
            check.due("the text stays", text.length(), sieve::clear);
        }
        Given.type(sieve, "((((((((ip");
        check.due("compile() with all brackets open", Given.BAD, sieve::compile);
        check.due("compile() with all brackets open, again", Given.BAD, sieve::compile);
        Given.type(sieve, "))))))))");
        check.due("compile() with all of them closed", 4, sieve::compile);
        Given.type(sieve, "ip o");
        check.due("compile() of half a text", Given.BAD, sieve::compile);
        Given.type(sieve, "r tcp");
        check.due("compile() of the whole text", 8, sieve::compile);
    }
}
