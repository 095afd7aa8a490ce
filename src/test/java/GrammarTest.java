import java.util.List;

/** Promise 4, with the words under "Terms": which texts are filters. */
public final class GrammarTest {
    private static final String[] WORDS = {"ip", "tcp", "udp", "ether", "len", "src", "dst", "host", "net", "port", "and", "or", "not"};

    private final Check check = new Check();

    public static void main(String[] args) {
        new GrammarTest().test();
    }

    private void test() {
        characters();
        words();
        wordsInTheirPlaces();
        zerosAhead();
        biggestNumber();
        signs();
        blanks();
        filtersAndParts();
        units();
        protocols();
        ends();
        addresses();
        bits();
        ports();
        relations();
        values();
        items();
        accesses();
        sizes();
        parentheses();
        braces();
        squareBrackets();
        bracketsOfAllKinds();
        whatIsNotLikeThat();
        check.finish();
    }

    /** A refusal is that of what is no filter: none of these is too long. */
    private void filters(String... texts) {
        for (String text : texts) {
            Sieve sieve = Given.typed(text);
            String answer = Check.answer(sieve::compile);
            check.same("compile() of \"" + text + "\": " + answer + ", refused", false, answer.startsWith("throws"));
            check.due("clear() behind \"" + text + "\"", 0, sieve::clear);
        }
    }

    private void noFilters(String... texts) {
        for (String text : texts) {
            Sieve sieve = Given.typed(text);
            check.due("compile() of \"" + text + "\"", Given.BAD, sieve::compile);
            check.due("clear() behind \"" + text + "\"", text.length(), sieve::clear);
        }
    }

    private void same(String text, String plain) {
        Sieve one = Given.compiled(text);
        Sieve other = Given.compiled(plain);
        for (int k = 0; k < 40; k++) {
            check.same("instruction " + k + " of \"" + text + "\"", Given.instruction(other, k), Given.instruction(one, k));
        }
    }

    private void characters() {
        check.sentence("The TEXT has at most 160 characters");
        filters(Given.repeated("1=1", 22, " or ") + " or 100=99");
        filters(Given.repeated(" ", 158, "") + "ip", "ip" + Given.repeated(" ", 158, ""));
        filters("port " + Given.repeated("0", 154, "") + "1");
        noFilters(Given.repeated(" ", 160, ""), Given.repeated("(", 160, ""), Given.repeated("1", 160, ""),
                Given.repeated("x", 160, ""), Given.repeated("not ", 40, ""), Given.repeated("ip[", 53, ""));
        for (char c = 32; c <= 126; c++) {
            if (c == ' ') {
                filters("ip" + c, c + "ip");
            } else {
                noFilters("ip" + c, c + "ip");
            }
        }
    }

    private void words() {
        check.sentence("a WORD (letters a .. z, as far as there are such)");
        filters("not(ip)and(tcp)or(udp)", "host1.2.3.4", "port80or port81", "1=1or 1=1", "1=len", "len=1and ip", "ip[0]=1and tcp");
        noFilters("ipx", "xip", "iptcp", "ipp", "i", "i p", "tc", "t cp", "notip", "not_ip", "ipor tcp", "ip ortcp", "iporudp",
                "ipand tcp", "srchost 1.2.3.4", "srcport 1", "dstnet 1.2.3.4/8", "lenlen=1", "lens=1", "le=1", "ethe[0]=1",
                "ethers[0]=1", "hosts 1.2.3.4", "nets 1.2.3.4/8", "por 1", "ports 1", "arp", "icmp", "proto 6", "ne", "true");
        noFilters("IP", "Ip", "iP", "TCP", "LEN=1", "NOT ip", "ip OR tcp", "ip AND tcp", "Host 1.2.3.4", "A=1", "ip`", "`ip", "ip@",
                "ip1", "1ip", "tcp6", "len1=1", "ip_", "ip-tcp");
    }

    /** Which words may stand in a place: all the others, and those with a letter changed, make it no filter. */
    private void wordsInTheirPlaces() {
        check.sentence("What is not like that is no filter (each word in each place)");
        place("*", "ip", "tcp", "udp");
        place("* ip", "not");
        place("ip * tcp", "and", "or");
        place("ip and * udp", "not");
        place("(* 80)", "port");
        place("* port 80", "src", "dst", "not");
        place("src * 80", "port");
        place("dst * 1.2.3.4", "host");
        place("* 1.2.3.4", "host");
        place("* 1.2.3.4/5", "net");
        place("* host 1.2.3.4", "src", "dst", "not");
        place("src * 1.2.3.4/5", "net");
        place("*=1", "len");
        place("1<*", "len");
        place("{*}+2=1", "len");
        place("*[0]=1", "ether", "ip", "tcp", "udp");
        place("1=*[len:2]", "ether", "ip", "tcp", "udp");
        place("ip[*]=1", "len");
        place("ip[*[0]]=1", "ether", "ip", "tcp", "udp");
        place("1=1 * 2=2", "and", "or");
    }

    private void place(String pattern, String... fitting) {
        for (String word : WORDS) {
            if (List.of(fitting).contains(word)) {
                filters(pattern.replace("*", word));
            } else {
                noFilters(pattern.replace("*", word));
            }
        }
        for (String word : fitting) {
            for (int i = 0; i < word.length(); i++) {
                for (char c : new char[] {'a', 'o', 'x', 'z', (char) (word.charAt(i) ^ 32)}) {
                    String changed = word.substring(0, i) + c + word.substring(i + 1);
                    if (!List.of(WORDS).contains(changed)) {
                        noFilters(pattern.replace("*", changed));
                    }
                }
                noFilters(pattern.replace("*", word.substring(0, i) + word.substring(i + 1)));
            }
        }
    }

    private void zerosAhead() {
        check.sentence("0s ahead count nothing");
        same("port 000000000000000000080", "port 80");
        same("len=00000000004294967295", "len=4294967295");
        same("len=" + Given.repeated("0", 150, "") + "7", "len=7");
        same("len=" + Given.repeated("0", 156, ""), "len=0");
        same("host 001.0002.000000000003.0255", "host 1.2.3.255");
        same("net 1.2.3.4/00000000000000000032", "net 1.2.3.4/32");
        same("ip[007:0004]=01", "ip[7:4]=1");
        noFilters("port 00065536", "len=004294967296", "host 0256.0.0.0", "net 1.2.3.4/033", "ip[0:03]=1", "ip[0:000]=1");
    }

    private void biggestNumber() {
        check.sentence("a NUMBER, from 0 to 4294967295");
        filters("0=0", "4294967295=0", "0=4294967295", "4294967294=0", "len=4294967295", "ip[4294967295]=1", "{4294967295}=1",
                "1+4294967295=1", "ether[4294967295:4]=0");
        noFilters("4294967296=0", "0=4294967296", "len=4294967296", "ip[4294967296]=1", "{4294967296}=1", "1+4294967296=1");
        noFilters("4294967297=1", "4294967300=1", "4294967305=1", "5000000000=1", "9999999999=1", "42949672950=1", "42949672960=1",
                "8589934592=1", "10000000000=1");
        noFilters("9223372036854775807=1", "9223372036854775808=1", "18446744073709551615=1", "18446744073709551616=1",
                "18446744073709551617=1", "18446744078004518911=1", "99999999999999999999=1", "79228162514264337593543950336=1",
                "340282366920938463463374607431768211457=1", Given.repeated("9", 150, "") + "=1", "1=1" + Given.repeated("0", 150, ""));
        noFilters("port 4294967296", "port 4294967297", "port 18446744073709551617", "host 4294967297.1.1.1",
                "host 18446744073709551617.1.1.1", "net 1.1.1.1/4294967297", "net 1.1.1.1/4294967296",
                "ip[0:4294967297]=1", "ip[0:18446744073709551618]=1", "ip[0:4294967300]=1");
        noFilters("-1=1", "1=-1", "+1=1", "0x1=1", "1.0=1", "1e3=1", "1_0=1", "1,000=1", "1 0=1", "1l=1");
    }

    private void signs() {
        check.sentence("SIGNS: two characters, if they are one of != <= >= << >>, otherwise one");
        filters("1!=1", "1<=1", "1>=1", "1<<1=1", "1>>1=1", "1=1", "1<1", "1>1", "1<<1<=2", "1>>1>=2", "1<<1<2", "1>>1>2",
                "1<{1}", "1<<{1}<1", "1<<1<<1<<1!=1>>1>>1");
        noFilters("1! =1", "1< =1", "1> =1", "1< <1=1", "1> >1=1", "1<<<1", "1>>>1", "1<<=1", "1>>=1", "1<==1", "1>==1", "1!==1",
                "1==1", "1=<1", "1=>1", "1=!1", "1<>1", "1><1", "1!1", "1!<1", "1!>1", "1!!=1", "1<!=1", "1&&1=1", "1||1=1", "1++1=1",
                "1--1=1", "1**1=1", "1//1=1", "1=1&&1=1", "!1=1", "!ip", "1<>=1", "1>><1=1");
    }

    private void blanks() {
        check.sentence("Blanks (32) may stand between tokens");
        same("  not  ( tcp  [  1  :  2  ]  <=  {  3  }  or  src  host  1  .  2  .  3  .  4  )  ",
                "not(tcp[1:2]<={3}or src host1.2.3.4)");
        same(" dst net 1 . 2 . 3 . 4 / 5 and port  6 ", "dst net1.2.3.4/5and port6");
        same(" 1 + 2 - 3 * 4 / 5 << 6 >> 7 & 8 | 9 != len ", "1+2-3*4/5<<6>>7&8|9!=len");
        same(" udp ", "udp");
        noFilters("t cp", "1 2=12", "por t 1", "4 294967295=0", "1 !  = 2", "host 1.2.3 4");
    }

    private void filtersAndParts() {
        check.sentence("filter = part { or part }, part = unit { and unit } ({ } any number of times)");
        filters("ip", "ip and tcp", "ip or tcp", "ip and tcp and udp", "ip or tcp or udp", "ip and tcp or udp and ip", "ip or tcp and udp",
                Given.repeated("ip", 26, " or "), Given.repeated("ip", 22, " and "), "1=1and 1=1or 1=1and 1=1");
        noFilters("and", "or", "ip and", "ip or", "and ip", "or ip", "ip and and tcp", "ip or or tcp", "ip and or tcp", "ip or and tcp",
                "ip tcp", "ip ip", "ip ( tcp )", "(ip)(tcp)", "(ip)tcp", "1=1 1=1", "1=1 ip", "ip 1=1", "ip,tcp", "ip;tcp", "ip|tcp",
                "ip&tcp", "ip = tcp", "ip + tcp");
    }

    private void units() {
        check.sentence("unit = not unit or ( filter ) or a PRIMITIVE or a RELATION");
        filters("not ip", "not not ip", "not not not ip", Given.repeated("not", 39, " ") + " ip", "not(ip)", "(not ip)", "((ip))",
                "(ip or tcp)and udp", "ip and(tcp or udp)", "not(not(ip))", "not 1=1", "not port 1", "not len=1", "not(1=1)", "(1=1)",
                "ip and not tcp", "ip or not not tcp");
        noFilters("not", "not not", "ip not", "ip not tcp", "not and ip", "not or ip", "()", "not()", "( )", "(", ")", "(ip", "ip)", "((ip)",
                "(ip))", ")ip(", "(ip or)", "(or ip)", "(not)", "(ip tcp)", "(1)=1", "(1=1", "1=1)", "1=(1)", "(1=1)=1", "(len)=1",
                "1=not 1", "{ip}", "{1=1}", "[ip]", "[1]=1", "(ip}", "{ip)", "(ip]", "not=1");
    }

    private void protocols() {
        check.sentence("ip, tcp, udp (where no [ follows)");
        filters("ip", "tcp", "udp", "ip or ip[0]=1", "tcp and tcp[0]=1", "udp or udp [0]=1", "(ip)");
        noFilters("ether", "not ether", "ip[", "ip[0", "ip[0]", "tcp[0]", "udp[0] and ip", "ip []", "tcp[]=1", "udp []=1", "ether[]=1",
                "ip{0}=1", "ip(0)=1", "ip=1", "1=ip", "tcp=tcp", "udp<1", "ip+1=1", "1+udp=1", "ether=1", "(ip)[0]=1", "ip:1", "{ip}[0]=1");
    }

    private void ends() {
        check.sentence("src, or dst, or neither, and then: host, or net, or port");
        for (String end : new String[] {"", "src ", "dst "}) {
            filters(end + "host 1.2.3.4", end + "net 1.2.3.4/5", end + "port 6");
        }
        noFilters("src", "dst", "src dst host 1.2.3.4", "src src port 1", "dst src port 1", "src or dst port 1", "src and dst port 1",
                "src ip", "dst tcp", "src udp", "src 1.2.3.4", "dst 1.2.3.4/5", "src 80", "src(port 80)", "src not port 80", "src len=1",
                "src 1=1", "src ip[0]=1", "host src 1.2.3.4", "port src 1", "net dst 1.2.3.4/5", "src ether", "src )", "dst {1}=1");
        noFilters("host", "net", "port", "host ip", "net tcp", "port udp", "host len", "port len", "port {1}", "port (1)", "port ip[0]",
                "port 1+1", "port 1 2", "port 1-2", "port 1/2", "port 1.2", "port =1", "port!=1", "host[0]=1", "port[0]=1", "len[0]=1",
                "src[0]=1", "net[0]=1", "port -1", "port /1", "port .1");
    }

    private void addresses() {
        check.sentence("host a . b . c . d, net a . b . c . d / n (a, b, c, d 0 .. 255)");
        for (int place = 0; place < 4; place++) {
            for (String number : new String[] {"0", "1", "254", "255", "256", "257", "511", "512", "999", "65536", "4294967295"}) {
                String[] numbers = {"1", "2", "3", "4"};
                numbers[place] = number;
                String address = String.join(".", numbers);
                String[] texts = {"host " + address, "src host " + address, "net " + address + "/8", "dst net " + address + "/32"};
                if (Long.parseLong(number) <= 255) {
                    filters(texts);
                } else {
                    noFilters(texts);
                }
            }
        }
        filters("host 0.0.0.0", "host 255.255.255.255", "net 0.0.0.0/0", "net 255.255.255.255/32");
        noFilters("host 1", "host 1.", "host 1.2", "host 1.2.", "host 1.2.3", "host 1.2.3.", "host 1.2.3.4.", "host 1.2.3.4.5",
                "host .1.2.3.4", "host 1..2.3", "host 1.2.3.len", "host 1.2.3.{4}", "host 1,2,3,4", "host 1:2:3:4", "host 1 2 3 4",
                "host 1.2.3.4/8", "host 1.2.3.-4", "host {1}.2.3.4", "net 1.2.3/8", "net 1.2/8", "net 1/8", "net 1.2.3./8",
                "net 1.2.3.4.5/8", "net .2.3.4/8");
    }

    private void bits() {
        check.sentence("net a . b . c . d / n (n 0 .. 32)");
        for (int n = 0; n <= 32; n++) {
            filters("net 1.2.3.4/" + n, "src net 1.2.3.4/" + n, "dst net 1.2.3.4/" + n);
        }
        for (String n : new String[] {"33", "34", "63", "64", "65", "128", "255", "256", "2147483648", "4294967295"}) {
            noFilters("net 1.2.3.4/" + n, "src net 1.2.3.4/" + n, "dst net 1.2.3.4/" + n);
        }
        noFilters("net 1.2.3.4", "net 1.2.3.4/", "net 1.2.3.4 8", "net 1.2.3.4/8/8", "net 1.2.3.4/-1", "net 1.2.3.4/{8}", "net 1.2.3.4/len",
                "net 1.2.3.4/8.0", "net 1.2.3.4//8", "net 1.2.3.4:8", "net 1.2.3.4/8 8", "net /8", "net 8");
    }

    private void ports() {
        check.sentence("port n (0 .. 65535)");
        for (String end : new String[] {"", "src ", "dst "}) {
            filters(end + "port 0", end + "port 1", end + "port 255", end + "port 256", end + "port 65534", end + "port 65535");
            noFilters(end + "port 65536", end + "port 65537", end + "port 131071", end + "port 2147483648", end + "port 4294967295");
        }
    }

    private void relations() {
        check.sentence("RELATION: value, one of = != < > <= >=, value");
        for (String sign : new String[] {"=", "!=", "<", ">", "<=", ">="}) {
            filters("1" + sign + "2", "len" + sign + "2", "1" + sign + "len", "ip[0]" + sign + "tcp[0]", "1+1" + sign + "2*2");
            noFilters("1" + sign, sign + "1", sign, "1" + sign + "2" + sign + "3", "1" + sign + sign + "2", "1 2" + sign + "3",
                    "1" + sign + "2 3", "1" + sign + "ip", "1" + sign + "(2)", "1" + sign + " or ip", "not" + sign + "1");
        }
        noFilters("1", "len", "{1}", "1+1", "ip[0]+1", "1 or ip", "ip or 1", "not 1", "(1)", "1<<2", "1>>2", "1&2", "1|2", "len and ip");
    }

    private void values() {
        check.sentence("value: items with signs between");
        for (String sign : new String[] {"*", "/", "+", "-", "<<", ">>", "&", "|"}) {
            filters("1" + sign + "2=3", "1=2" + sign + "3", "len" + sign + "len=len", "1" + sign + "2" + sign + "3=4",
                    "ip[1" + sign + "2]=3", "{1" + sign + "2}=3");
            noFilters("1" + sign + "=2", sign + "1=2", "1=2" + sign, "1=" + sign + "2", "1 " + sign + " " + sign + " 2=3", "ip[1" + sign + "]=3",
                    "{" + sign + "1}=3", "1" + sign + "ip=1", "1" + sign + "(2)=3", "1" + sign + "not 2=3");
        }
        noFilters("1%2=1", "1^2=1", "1~2=1", "~1=1", "1,2=1", "1.2=1", "1:2=1", "1;2=1", "1?2=1", "1@2=1", "1#2=1", "1$2=1", "1!2=1");
    }

    private void items() {
        check.sentence("item = a number or len or { value } with these signs written or an ACCESS");
        filters("0=0", "len=len", "{1}={2}", "{{1}}=1", "{len}=1", "{1+2}*{3-4}=5", "{ip[0]}=1", "ip[{0}]=1", "1={1}", "{1|2&3<<4+5*6}=1");
        noFilters("{}=1", "{ }=1", "1={}", "{1=1", "1}=1", "{1}}=1", "{{1}=1", "}1{=1", "{1)=1", "{1]=1", "(1}=1", "[1}=1", "{1 2}=3", "{1}{2}=3",
                "{1}2=3", "1{2}=3", "{1:1}=1", "{ip}=1", "{port 1}=1", "{not 1}=1", "{1}", "len len=1", "len 1=1", "1 len=1", "len()=1",
                "len{}=1", "1+{}=1");
    }

    private void accesses() {
        check.sentence("an ACCESS: ether, ip, tcp or udp, then [ value ]");
        for (String name : new String[] {"ether", "ip", "tcp", "udp"}) {
            filters(name + "[0]=1", name + "[len]=1", name + "[1+2]=3", name + "[{0}]=1", "1=" + name + "[0]", name + "[" + name + "[0]]=1",
                    name + " [ 0 ] = 1");
            noFilters(name + "[]=1", name + "[0]", name + "[0=1", name + "0]=1", name + "[0)=1", name + "[0}=1", name + "(0)=1",
                    name + "{0}=1", name + "[0][0]=1", name + "[0]0=1", name + "[1=1]=1", name + "[ip]=1", name + "[0]]=1",
                    name + "[[0]]=1", name + "[0,1]=1", name + "[1 2]=1", name + "[(0)]=1", name + "[]0=1", name + "[0:1]", name + " 0=1");
        }
    }

    private void sizes() {
        check.sentence("[ value : s ] with s 1, 2 or 4 (1 if it is not said)");
        for (String name : new String[] {"ether", "ip", "tcp", "udp"}) {
            filters(name + "[0:1]=1", name + "[0:2]=1", name + "[0:4]=1", name + "[len-1:2]=1", name + "[ 0 : 4 ] = 1");
            noFilters(name + "[0:0]=1", name + "[0:3]=1", name + "[0:5]=1", name + "[0:6]=1", name + "[0:7]=1", name + "[0:8]=1",
                    name + "[0:16]=1", name + "[0:257]=1", name + "[0:65537]=1", name + "[0:4294967295]=1");
            noFilters(name + "[0:]=1", name + "[:1]=1", name + "[:]=1", name + "[0:1:1]=1", name + "[0::1]=1", name + "[0:len]=1",
                    name + "[0:{1}]=1", name + "[0:1+1]=1", name + "[0:-1]=1", name + "[0:1=1", name + "[0:1)=1", name + "[0 1]=1");
            same(name + "[7]=1", name + "[7:1]=1");
            same(name + "[len]=1", name + "[len:1]=1");
        }
    }

    private static String nested(String open, String inner, String close, int deep) {
        return Given.repeated(open, deep, "") + inner + Given.repeated(close, deep, "");
    }

    private void parentheses() {
        check.sentence("Parentheses are at most 8 deep in one another");
        for (int deep = 1; deep <= 8; deep++) {
            filters(nested("(", "ip", ")", deep), "not " + nested("(", "1=1", ")", deep), nested("(not ", "1=1", ")", deep),
                    "ip or " + nested("(", "ip", ")", deep) + " and " + nested("(", "ip", ")", deep), nested("(1=1or", "(ip)", ")", deep - 1));
        }
        for (int deep = 9; deep <= 20; deep++) {
            noFilters(nested("(", "ip", ")", deep), nested("(", "1=1", ")", deep), "ip or " + nested("(", "ip", ")", deep),
                    nested("(not ", "ip", ")", deep), nested("(", "ip", ")", 8) + " or " + nested("(", "ip", ")", deep));
        }
        noFilters(nested("(", "ip", ")", 79));
        filters(Given.repeated("(ip)", 20, " or "), Given.repeated("(1=1)", 17, " and"), Given.repeated("((ip))", 16, " or "));
    }

    private void braces() {
        check.sentence("{ } are at most 8 deep in one another");
        for (int deep = 1; deep <= 8; deep++) {
            filters(nested("{", "1", "}", deep) + "=1", "1=" + nested("{", "1", "}", deep), nested("{1+", "len", "}", deep) + "=1",
                    nested("{", "1", "}", deep) + "*" + nested("{", "2", "}", deep) + "=" + nested("{", "3", "}", deep));
        }
        for (int deep = 9; deep <= 20; deep++) {
            noFilters(nested("{", "1", "}", deep) + "=1", "1=" + nested("{", "1", "}", deep), nested("{1+", "len", "}", deep) + "=1",
                    nested("{", "1", "}", 8) + "+" + nested("{", "2", "}", deep) + "=3");
        }
        noFilters(nested("{", "1", "}", 78) + "=1", "1=" + nested("{", "1", "}", 78));
        filters(Given.repeated("{1}", 39, "+") + "=1", Given.repeated("{{{1}}}", 19, "+") + "=1");
    }

    private void squareBrackets() {
        check.sentence("[ ] are at most 8 deep in one another");
        for (String name : new String[] {"ether", "ip", "tcp", "udp"}) {
            for (int deep = 1; deep <= 8; deep++) {
                filters(nested(name + "[", "0", "]", deep) + "=1", "1=" + nested(name + "[", "len", ":2]", deep));
            }
            for (int deep = 9; deep <= 14; deep++) {
                noFilters(nested(name + "[", "0", "]", deep) + "=1", "1=" + nested(name + "[", "len", ":2]", deep));
            }
        }
        noFilters(nested("ip[", "0", "]", 39) + "=1");
        filters(Given.repeated("ip[0]", 12, "&") + "=1", Given.repeated("ip[ip[0]]", 9, "+") + "=1");
    }

    private void bracketsOfAllKinds() {
        check.sentence("Parentheses, { } and [ ] are at most 8 deep in one another");
        filters("((((((((1=1))))))))", "(((((((1={1})))))))", "(((((((ip[0]=1)))))))", "(((({{{{1}}}}=1))))", "((({{ip[ip[{1}]]}}=1)))",
                "ip[{ip[{ip[{ip[{0}]}]}]}]=1", "(ip[{ip[{ip[{ip[0]}]}]}]=1)", "({ip[0]}=1or({ip[{0}]}={{{{{{1}}}}}}))",
                "(((((((not{1}=1)))))))and(((((((1={1})))))))", "{ip[{{{{{{1}}}}}}]}=1");
        noFilters("((((((((1={1}))))))))", "(((((((({1}=1))))))))", "((((((((ip[0]=1))))))))", "((((((((1=ether[0]))))))))",
                "(((({{{{{1}}}}}=1))))", "((((({{{{1}}}}=1)))))", "((({{ip[ip[{{1}}]]}}=1)))", "(ip[{ip[{ip[{ip[{0}]}]}]}]=1)",
                "{ip[{{{{{{{1}}}}}}}]}=1", "ip[{ip[{ip[{ip[{len+{0}}]}]}]}]=1", "(((((((1=2or(3={4}))))))))", "(((((((not(1={1}))))))))",
                "{{{{ip[ip[ip[ip[ip[0]]]]]}}}}=1", "{{{{{{{{ip[0]}}}}}}}}=1", "ip[ip[ip[ip[ip[ip[ip[ip[{0}]]]]]]]]=1");
    }

    private void whatIsNotLikeThat() {
        check.sentence("What is not like that is no filter");
        noFilters("", " ", "        ", "foo", "0", "1 1", "=", "=1", "1=", "ip#", "ip\"", "ip;", "ip~", "ip\\", "@ip", "tcp $", "1='1'", "ip and 1",
                "ip or len", "len=", "ip[0]=", "tcp port 80", "ip host 1.2.3.4", "udp dst port 53", "host 1.2.3.4 port 1", "1=1,2=2",
                "ip and (tcp or)", "1=1 and not", "1=1 or (", "1=1 or )");
    }
}
