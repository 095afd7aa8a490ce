import java.util.ArrayList;
import java.util.List;
import java.util.regex.Matcher;
import java.util.regex.Pattern;

/**
 * The document's terms once more, written another way than the class does: objects for the parts of a filter, code that
 * is written forward with labels, numbers as ints without sign.
 */
final class Oracle {
    private static final Pattern TOKEN = Pattern.compile("!=|<=|>=|<<|>>|[a-z]+|[0-9]+|[^ ]");
    private static final String[][] STRENGTHS = {{"|"}, {"&"}, {"<<", ">>"}, {"+", "-"}, {"*", "/"}};
    private static final List<String> SIGNS = List.of("+", "-", "*", "/", "<<", ">>", "&", "|");
    private static final List<String> RELATIONS = List.of("=", "!=", "<", ">", "<=", ">=");

    private final List<String> tokens = new ArrayList<>();
    private int at;

    private Oracle(String text) {
        Matcher matcher = TOKEN.matcher(text);
        while (matcher.find()) {
            tokens.add(matcher.group());
        }
    }

    static final class NoFilter extends RuntimeException {
        private static final long serialVersionUID = 1;
    }

    static final class Reject extends RuntimeException {
        private static final long serialVersionUID = 1;
    }

    static final class TooLong extends RuntimeException {
        private static final long serialVersionUID = 1;
    }

    interface Condition {
        boolean says(int[] packet);

        void code(Assembly out, Label yes, Label no);
    }

    interface Value {
        int worth(int[] packet);

        void code(Assembly out, int d);

        void protocols(List<String> found);

        default boolean isNumber() {
            return false;
        }
    }

    static final class Label {
        int place = -1;
    }

    record Row(int operation, Label yes, Label no, int k) {
    }

    static final class Assembly {
        final List<Row> rows = new ArrayList<>();

        void add(int operation, int k) {
            rows.add(new Row(operation, null, null, k));
        }

        void cell(int operation, int d) {
            if (d > 15) {
                throw new TooLong();
            }
            add(operation, d);
        }

        void test(int operation, int k, Label yes, Label no) {
            rows.add(new Row(operation, yes, no, k));
        }

        /** A test that goes on behind itself when it holds. */
        void must(int operation, int k, Label no) {
            Label next = new Label();
            test(operation, k, next, no);
            here(next);
        }

        void mustNot(int operation, int k, Label no) {
            Label next = new Label();
            test(operation, k, no, next);
            here(next);
        }

        void here(Label label) {
            label.place = rows.size();
        }

        void ip(Label no) {
            add(3, 12);
            must(40, 2048, no);
        }

        void whole(int protocol, Label no) {
            ip(no);
            add(2, 23);
            must(40, protocol, no);
            add(3, 20);
            mustNot(43, 8191, no);
        }
    }

    static Condition parse(String text) {
        Oracle oracle = new Oracle(text);
        Condition filter = oracle.filter(0);
        if (oracle.at != oracle.tokens.size()) {
            throw new NoFilter();
        }
        return filter;
    }

    static int[][] program(Condition filter, int snap) {
        Assembly out = new Assembly();
        Label yes = new Label();
        Label no = new Label();
        filter.code(out, yes, no);
        out.here(yes);
        out.add(60, Math.max(1, snap));
        out.here(no);
        out.add(60, 0);
        if (out.rows.size() > 150) {
            throw new TooLong();
        }
        int[][] program = new int[out.rows.size()][];
        for (int i = 0; i < program.length; i++) {
            Row row = out.rows.get(i);
            program[i] = new int[] {row.operation, row.yes == null ? 0 : row.yes.place - i - 1,
                row.no == null ? 0 : row.no.place - i - 1, row.k};
        }
        return program;
    }

    static int holds(Condition filter, int[] packet) {
        try {
            return filter.says(packet) ? 1 : 0;
        } catch (Reject e) {
            return -1;
        }
    }

    /** The answer, then what state(0), state(1) and so on have to be. */
    static int[] run(int[][] program, int[] packet) {
        int[] state = new int[20];
        int at = 0;
        while (true) {
            int[] row = program[at++];
            state[1]++;
            if (row[0] == 60) {
                state[0] = row[3];
                return state;
            }
            try {
                at += step(row, packet, state);
            } catch (Reject e) {
                return state;
            }
        }
    }

    private static int step(int[] row, int[] packet, int[] state) {
        int operation = row[0];
        int k = row[3];
        int a = state[2];
        int x = state[3];
        if (operation == 0) {
            state[2] = k;
        } else if (operation == 1) {
            state[2] = packet.length;
        } else if (operation <= 4) {
            state[2] = field(packet, k, operation == 4 ? 4 : operation - 1);
        } else if (operation <= 7) {
            state[2] = field(packet, x + k, operation == 7 ? 4 : operation - 4);
        } else if (operation == 8) {
            state[3] = 4 * (field(packet, k, 1) & 15);
        } else if (operation == 9) {
            state[2] = state[4 + k];
        } else if (operation == 10) {
            state[3] = state[4 + k];
        } else if (operation == 11) {
            state[4 + k] = a;
        } else if (operation == 12) {
            state[3] = a;
        } else if (operation < 40) {
            state[2] = combine(SIGNS.get(operation % 10), a, operation < 30 ? k : x);
        } else {
            int other = operation < 50 ? k : x;
            int compared = Integer.compareUnsigned(a, other);
            boolean so = switch (operation % 10) {
                case 0 -> compared == 0;
                case 1 -> compared > 0;
                case 2 -> compared >= 0;
                default -> (a & other) != 0;
            };
            return so ? row[1] : row[2];
        }
        return 0;
    }

    static int field(int[] packet, int place, int size) {
        long from = Integer.toUnsignedLong(place);
        int number = 0;
        for (int i = 0; i < size; i++) {
            if (from + i >= packet.length) {
                throw new Reject();
            }
            number = number * 256 + packet[(int) from + i];
        }
        return number;
    }

    static int combine(String sign, int a, int b) {
        boolean far = Integer.compareUnsigned(b, 31) > 0;
        return switch (sign) {
            case "+" -> a + b;
            case "-" -> a - b;
            case "*" -> a * b;
            case "/" -> {
                if (b == 0) {
                    throw new Reject();
                }
                yield Integer.divideUnsigned(a, b);
            }
            case "<<" -> far ? 0 : a << b;
            case ">>" -> far ? 0 : a >>> b;
            case "&" -> a & b;
            default -> a | b;
        };
    }

    private static boolean isIp(int[] packet) {
        return field(packet, 12, 2) == 2048;
    }

    private static boolean isWhole(int[] packet, int protocol) {
        return isIp(packet) && field(packet, 23, 1) == protocol && (field(packet, 20, 2) & 8191) == 0;
    }

    private static int head(int[] packet) {
        return 4 * (field(packet, 14, 1) & 15);
    }

    // The parts of a filter.

    record And(Condition a, Condition b) implements Condition {
        public boolean says(int[] packet) {
            return a.says(packet) && b.says(packet);
        }

        public void code(Assembly out, Label yes, Label no) {
            Label next = new Label();
            a.code(out, next, no);
            out.here(next);
            b.code(out, yes, no);
        }
    }

    record Or(Condition a, Condition b) implements Condition {
        public boolean says(int[] packet) {
            return a.says(packet) || b.says(packet);
        }

        public void code(Assembly out, Label yes, Label no) {
            Label next = new Label();
            a.code(out, yes, next);
            out.here(next);
            b.code(out, yes, no);
        }
    }

    record Not(Condition a) implements Condition {
        public boolean says(int[] packet) {
            return !a.says(packet);
        }

        public void code(Assembly out, Label yes, Label no) {
            a.code(out, no, yes);
        }
    }

    record Protocol(String name) implements Condition {
        public boolean says(int[] packet) {
            return isIp(packet) && (name.equals("ip") || field(packet, 23, 1) == (name.equals("tcp") ? 6 : 17));
        }

        public void code(Assembly out, Label yes, Label no) {
            out.add(3, 12);
            if (name.equals("ip")) {
                out.test(40, 2048, yes, no);
            } else {
                out.must(40, 2048, no);
                out.add(2, 23);
                out.test(40, name.equals("tcp") ? 6 : 17, yes, no);
            }
        }
    }

    /** A host has no bits said, -1. */
    record Address(boolean source, boolean target, int address, int bits) implements Condition {
        private int mask() {
            int mask = 0;
            for (int i = 0; i < (bits < 0 ? 32 : bits); i++) {
                mask |= 1 << (31 - i);
            }
            return mask;
        }

        private boolean is(int[] packet, int place) {
            return ((field(packet, place, 4) ^ address) & mask()) == 0;
        }

        public boolean says(int[] packet) {
            return isIp(packet) && (source && is(packet, 26) || target && is(packet, 30));
        }

        private void code(Assembly out, int place, Label yes, Label no) {
            out.add(4, place);
            if (bits >= 0) {
                out.add(26, mask());
            }
            out.test(40, address & mask(), yes, no);
        }

        public void code(Assembly out, Label yes, Label no) {
            out.ip(no);
            Label next = new Label();
            if (source) {
                code(out, 26, yes, target ? next : no);
            }
            out.here(next);
            if (target) {
                code(out, 30, yes, no);
            }
        }
    }

    record Port(boolean source, boolean target, int port) implements Condition {
        public boolean says(int[] packet) {
            return isIp(packet) && (field(packet, 23, 1) == 6 || field(packet, 23, 1) == 17)
                    && (field(packet, 20, 2) & 8191) == 0
                    && (source && field(packet, 14 + head(packet), 2) == port
                    || target && field(packet, 16 + head(packet), 2) == port);
        }

        public void code(Assembly out, Label yes, Label no) {
            out.ip(no);
            out.add(2, 23);
            Label three = new Label();
            Label next = new Label();
            out.test(40, 6, three, next);
            out.here(next);
            out.test(40, 17, three, no);
            out.here(three);
            out.add(3, 20);
            out.mustNot(43, 8191, no);
            out.add(8, 14);
            Label second = new Label();
            if (source) {
                out.add(6, 14);
                out.test(40, port, yes, target ? second : no);
            }
            out.here(second);
            if (target) {
                out.add(6, 16);
                out.test(40, port, yes, no);
            }
        }
    }

    record Relation(Value a, String sign, Value b) implements Condition {
        private List<String> protocols() {
            List<String> found = new ArrayList<>();
            a.protocols(found);
            b.protocols(found);
            return found;
        }

        public boolean says(int[] packet) {
            List<String> asked = protocols();
            if (asked.contains("ip") && !isIp(packet) || asked.contains("tcp") && !isWhole(packet, 6)
                    || asked.contains("udp") && !isWhole(packet, 17)) {
                return false;
            }
            int compared = Integer.compareUnsigned(a.worth(packet), b.worth(packet));
            return switch (sign) {
                case "=" -> compared == 0;
                case "!=" -> compared != 0;
                case "<" -> compared < 0;
                case ">" -> compared > 0;
                case "<=" -> compared <= 0;
                default -> compared >= 0;
            };
        }

        public void code(Assembly out, Label yes, Label no) {
            List<String> asked = protocols();
            if (asked.contains("ip")) {
                out.ip(no);
            }
            if (asked.contains("tcp")) {
                out.whole(6, no);
            }
            if (asked.contains("udp")) {
                out.whole(17, no);
            }
            int test = switch (sign) {
                case "=", "!=" -> 40;
                case ">", "<=" -> 41;
                default -> 42;
            };
            boolean turned = sign.equals("!=") || sign.equals("<=") || sign.equals("<");
            int k = 0;
            if (b.isNumber()) {
                a.code(out, 0);
                k = b.worth(new int[0]);
            } else {
                b.code(out, 0);
                out.cell(11, 0);
                a.code(out, 1);
                out.cell(10, 0);
                test += 10;
            }
            out.test(test, k, turned ? no : yes, turned ? yes : no);
        }
    }

    record Number(int number) implements Value {
        public int worth(int[] packet) {
            return number;
        }

        public void code(Assembly out, int d) {
            out.add(0, number);
        }

        public void protocols(List<String> found) {
        }

        public boolean isNumber() {
            return true;
        }
    }

    record Len() implements Value {
        public int worth(int[] packet) {
            return packet.length;
        }

        public void code(Assembly out, int d) {
            out.add(1, 0);
        }

        public void protocols(List<String> found) {
        }
    }

    record Access(String name, Value index, int size) implements Value {
        public int worth(int[] packet) {
            int start = name.equals("ether") ? 0 : name.equals("ip") ? 14 : 14 + head(packet);
            return field(packet, start + index.worth(packet), size);
        }

        public void code(Assembly out, int d) {
            int start = name.equals("ether") ? 0 : 14;
            boolean far = name.equals("tcp") || name.equals("udp");
            int wide = size == 4 ? 2 : size - 1;
            if (index.isNumber() && !far) {
                out.add(2 + wide, start + index.worth(new int[0]));
                return;
            }
            index.code(out, d);
            if (far) {
                out.cell(11, d);
                out.add(8, 14);
                out.cell(9, d);
                out.add(30, 0);
            }
            out.add(12, 0);
            out.add(5 + wide, start);
        }

        public void protocols(List<String> found) {
            found.add(name);
            index.protocols(found);
        }
    }

    record Pair(Value a, String sign, Value b) implements Value {
        public int worth(int[] packet) {
            return combine(sign, a.worth(packet), b.worth(packet));
        }

        public void code(Assembly out, int d) {
            int o = SIGNS.indexOf(sign);
            if (b.isNumber()) {
                a.code(out, d);
                out.add(20 + o, b.worth(new int[0]));
            } else {
                b.code(out, d);
                out.cell(11, d);
                a.code(out, d + 1);
                out.cell(10, d);
                out.add(30 + o, 0);
            }
        }

        public void protocols(List<String> found) {
            a.protocols(found);
            b.protocols(found);
        }
    }

    // The parser: depth is how many brackets stand open.

    private String now() {
        return at < tokens.size() ? tokens.get(at) : "";
    }

    private boolean takes(String token) {
        boolean there = now().equals(token);
        at += there ? 1 : 0;
        return there;
    }

    private void needs(String token) {
        if (!takes(token)) {
            throw new NoFilter();
        }
    }

    private int number(String biggest) {
        String token = now();
        if (!token.matches("[0-9]+") || new java.math.BigInteger(token).compareTo(new java.math.BigInteger(biggest)) > 0) {
            throw new NoFilter();
        }
        at++;
        return new java.math.BigInteger(token).intValue();
    }

    private static int deeper(int depth) {
        if (depth >= 8) {
            throw new NoFilter();
        }
        return depth + 1;
    }

    private Condition filter(int depth) {
        Condition made = part(depth);
        while (takes("or")) {
            made = new Or(made, part(depth));
        }
        return made;
    }

    private Condition part(int depth) {
        Condition made = unit(depth);
        while (takes("and")) {
            made = new And(made, unit(depth));
        }
        return made;
    }

    private Condition unit(int depth) {
        if (takes("not")) {
            return new Not(unit(depth));
        }
        if (takes("(")) {
            Condition inner = filter(deeper(depth));
            needs(")");
            return inner;
        }
        boolean accessed = at + 1 < tokens.size() && tokens.get(at + 1).equals("[");
        if (List.of("ip", "tcp", "udp").contains(now()) && !accessed) {
            return new Protocol(tokens.get(at++));
        }
        if (List.of("src", "dst", "host", "net", "port").contains(now())) {
            return end();
        }
        Value a = value(0, depth);
        if (!RELATIONS.contains(now())) {
            throw new NoFilter();
        }
        return new Relation(a, tokens.get(at++), value(0, depth));
    }

    private Condition end() {
        boolean source = takes("src");
        boolean target = !source && takes("dst");
        if (!source && !target) {
            source = true;
            target = true;
        }
        if (takes("port")) {
            return new Port(source, target, number("65535"));
        }
        boolean net = takes("net");
        if (!net) {
            needs("host");
        }
        int address = number("255");
        for (int i = 0; i < 3; i++) {
            needs(".");
            address = address * 256 + number("255");
        }
        if (!net) {
            return new Address(source, target, address, -1);
        }
        needs("/");
        return new Address(source, target, address, number("32"));
    }

    private Value value(int strength, int depth) {
        if (strength == STRENGTHS.length) {
            return item(depth);
        }
        Value made = value(strength + 1, depth);
        while (List.of(STRENGTHS[strength]).contains(now())) {
            made = new Pair(made, tokens.get(at++), value(strength + 1, depth));
        }
        return made;
    }

    private Value item(int depth) {
        if (takes("len")) {
            return new Len();
        }
        if (takes("{")) {
            Value inner = value(0, deeper(depth));
            needs("}");
            return inner;
        }
        if (!List.of("ether", "ip", "tcp", "udp").contains(now())) {
            return new Number(number("4294967295"));
        }
        String name = tokens.get(at++);
        needs("[");
        Value index = value(0, deeper(depth));
        int size = takes(":") ? number("4") : 1;
        if (size == 0 || size == 3) {
            throw new NoFilter();
        }
        needs("]");
        return new Access(name, index, size);
    }
}
