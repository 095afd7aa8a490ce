/**
 * A sieve for packets: a filter is written as a text, what it says of a packet can be asked of it at once, or it is
 * compiled into a small program, which a machine runs over the packet with the same answer.
 */
public final class PacketSieve {
    private static final long LOW_32_BITS = 0xFFFFFFFFL;

    /** Stands in the place of a number where the packet is rejected: no number is below 0. */
    private static final long REJECTED = -1;

    // The protocols are bits, so that one number can tell all those that a relation asks for.
    private static final int ETHER = 0;
    private static final int IP = 1;
    private static final int TCP = 2;
    private static final int UDP = 4;

    // The signs between two values, by the numbers that the machine has for them.
    private static final int PLUS = 0;
    private static final int MINUS = 1;
    private static final int TIMES = 2;
    private static final int OVER = 3;
    private static final int SHIFTED_LEFT = 4;
    private static final int SHIFTED_RIGHT = 5;
    private static final int BITS_OF_BOTH = 6;
    private static final int BITS_OF_EITHER = 7;

    private static final int EITHER_END = 0;
    private static final int SOURCE = 1;
    private static final int TARGET = 2;

    private final int snap;
    private final Text text;
    private final Packet packet;
    private final Machine machine;
    private Filter filter;

    /** A text is compiled into this one, so that the filter stays as it was when that fails. */
    private Filter spare;

    public PacketSieve(int snap) {
        this.snap = Math.max(snap, 1);
        text = new Text();
        packet = new Packet();
        machine = new Machine(packet);
        filter = new Filter(packet);
        spare = new Filter(packet);
    }

    public int type(long characters, int n) throws IllegalArgumentException, IllegalStateException {
        if (!isByteCount(n) || !Text.areCharacters(characters, n)) {
            throw new IllegalArgumentException();
        }
        if (!text.hasRoom(n)) {
            throw new IllegalStateException();
        }
        text.append(characters, n);
        return text.length();
    }

    public int clear() {
        int had = text.length();
        text.empty();
        return had;
    }

    public int compile() throws IllegalArgumentException, UnsupportedOperationException {
        spare.parser.parse(text);
        spare.coder.translate(snap);
        Filter made = spare;
        spare = filter;
        filter = made;
        text.empty();
        return filter.program.size();
    }

    public int instruction(int k, int what) {
        if (k < 0 || k >= filter.program.size()) {
            return -1;
        }
        switch (what) {
            case 0:
                return filter.program.operation(k);
            case 1:
                return filter.program.wayIfSo(k);
            case 2:
                return filter.program.wayIfNot(k);
            case 3:
                return (int) filter.program.number(k);
            default:
                return -1;
        }
    }

    public int put(long bytes, int n) {
        if (!isByteCount(n) || !packet.hasRoom(n)) {
            return -1;
        }
        packet.append(bytes, n);
        return packet.length();
    }

    public int cut(int n) {
        int had = packet.length();
        if (n < 0 || n > had) {
            return -1;
        }
        packet.shorten(n);
        return had;
    }

    public int set(int place, int v) {
        if (place < 0 || place >= packet.length()) {
            return -1;
        }
        return packet.replace(place, v);
    }

    public int holds() throws IllegalStateException {
        if (filter.program.size() == 0) {
            throw new IllegalStateException();
        }
        return filter.judge.judge();
    }

    public int run() throws IllegalStateException {
        if (filter.program.size() == 0) {
            throw new IllegalStateException();
        }
        return machine.execute(filter.program);
    }

    public int state(int what) {
        return machine.report(what);
    }

    private static boolean isByteCount(int n) {
        return n >= 1 && n <= 8;
    }

    private static int byteOf(long bytes, int i) {
        return (int) (bytes >>> (8 * i)) & 255;
    }

    /** Two numbers with a sign between them; REJECTED for a / by 0. */
    private static long combine(int sign, long a, long b) {
        switch (sign) {
            case PLUS:
                return (a + b) & LOW_32_BITS;
            case MINUS:
                return (a - b) & LOW_32_BITS;
            case TIMES:
                return (a * b) & LOW_32_BITS;
            case OVER:
                return b == 0 ? REJECTED : a / b;
            case SHIFTED_LEFT:
                return b >= 32 ? 0 : (a << (int) b) & LOW_32_BITS;
            case SHIFTED_RIGHT:
                return b >= 32 ? 0 : a >> (int) b;
            case BITS_OF_BOTH:
                return a & b;
            default:
                return a | b;
        }
    }

    /** What has been typed and not yet compiled. */
    private static final class Text {
        static final int MOST = 160;

        private final byte[] characters;
        private int length;

        Text() {
            characters = new byte[MOST];
        }

        static boolean areCharacters(long packed, int n) {
            for (int i = 0; i < n; i++) {
                int c = byteOf(packed, i);
                if (c < 32 || c > 126) {
                    return false;
                }
            }
            return true;
        }

        int length() {
            return length;
        }

        boolean hasRoom(int n) {
            return length + n <= MOST;
        }

        void append(long packed, int n) {
            for (int i = 0; i < n; i++) {
                characters[length + i] = (byte) byteOf(packed, i);
            }
            length += n;
        }

        void empty() {
            length = 0;
        }

        /** The character at a place, 0 behind the last one: that is part of no token. */
        int at(int place) {
            return place < length ? characters[place] : 0;
        }

        boolean spells(String word, int from, int end) {
            if (word.length() != end - from) {
                return false;
            }
            for (int i = 0; i < word.length(); i++) {
                if (at(from + i) != word.charAt(i)) {
                    return false;
                }
            }
            return true;
        }
    }

    /** The tokens of a text. A sign's kind is its character, or the two of them as one number. */
    private static final class Tokens {
        static final int MOST = Text.MOST;

        static final int END = 0;
        static final int NUMBER = 1;
        /** A word that no filter has, or a number that is too big. */
        static final int STRANGE = 2;
        static final int WORD_IP = 3;
        static final int WORD_TCP = 4;
        static final int WORD_UDP = 5;
        static final int WORD_ETHER = 6;
        static final int WORD_LEN = 7;
        static final int WORD_SRC = 8;
        static final int WORD_DST = 9;
        static final int WORD_HOST = 10;
        static final int WORD_NET = 11;
        static final int WORD_PORT = 12;
        static final int WORD_AND = 13;
        static final int WORD_OR = 14;
        static final int WORD_NOT = 15;
        static final int NOT_EQUAL = '!' << 8 | '=';
        static final int AT_MOST = '<' << 8 | '=';
        static final int AT_LEAST = '>' << 8 | '=';
        static final int SHIFT_LEFT = '<' << 8 | '<';
        static final int SHIFT_RIGHT = '>' << 8 | '>';

        private final int[] kinds;
        private final long[] numbers;
        private int count;

        Tokens() {
            kinds = new int[MOST];
            numbers = new long[MOST];
        }

        int kind(int place) {
            return place < count ? kinds[place] : END;
        }

        long number(int place) {
            return place < count ? numbers[place] : 0;
        }

        void read(Text text) {
            count = 0;
            int end = 0;
            for (int i = 0; i < text.length(); i++) {
                if (i >= end && text.at(i) != ' ') {
                    end = readToken(text, i);
                    count++;
                }
            }
        }

        /** Answers where the token ends; it has a character of its own, so that there is a row for it. */
        private int readToken(Text text, int from) {
            if (isLetter(text.at(from))) {
                return readWord(text, from);
            }
            if (isDigit(text.at(from))) {
                return readNumber(text, from);
            }
            return readSign(text, from);
        }

        private int readWord(Text text, int from) {
            int end = from;
            while (end < text.length() && isLetter(text.at(end))) {
                end++;
            }
            kinds[count] = wordKind(text, from, end);
            return end;
        }

        private int readNumber(Text text, int from) {
            long number = 0;
            int end = from;
            while (end < text.length() && isDigit(text.at(end))) {
                // One above the biggest is enough to know that it is too big, and never overflows.
                number = Math.min(number * 10 + text.at(end) - '0', LOW_32_BITS + 1);
                end++;
            }
            kinds[count] = number > LOW_32_BITS ? STRANGE : NUMBER;
            numbers[count] = number;
            return end;
        }

        private int readSign(Text text, int from) {
            int pair = text.at(from) << 8 | text.at(from + 1);
            boolean paired = pair == NOT_EQUAL || pair == AT_MOST || pair == AT_LEAST
                    || pair == SHIFT_LEFT || pair == SHIFT_RIGHT;
            kinds[count] = paired ? pair : text.at(from);
            return paired ? from + 2 : from + 1;
        }

        private static boolean isLetter(int c) {
            return c >= 'a' && c <= 'z';
        }

        private static boolean isDigit(int c) {
            return c >= '0' && c <= '9';
        }

        private static int wordKind(Text text, int from, int end) {
            if (text.spells("ip", from, end)) {
                return WORD_IP;
            }
            if (text.spells("tcp", from, end)) {
                return WORD_TCP;
            }
            if (text.spells("udp", from, end)) {
                return WORD_UDP;
            }
            if (text.spells("ether", from, end)) {
                return WORD_ETHER;
            }
            if (text.spells("len", from, end)) {
                return WORD_LEN;
            }
            if (text.spells("src", from, end)) {
                return WORD_SRC;
            }
            if (text.spells("dst", from, end)) {
                return WORD_DST;
            }
            if (text.spells("host", from, end)) {
                return WORD_HOST;
            }
            if (text.spells("net", from, end)) {
                return WORD_NET;
            }
            if (text.spells("port", from, end)) {
                return WORD_PORT;
            }
            if (text.spells("and", from, end)) {
                return WORD_AND;
            }
            if (text.spells("or", from, end)) {
                return WORD_OR;
            }
            return text.spells("not", from, end) ? WORD_NOT : STRANGE;
        }
    }

    /**
     * A filter as nodes in rows. A node stands behind its parts, so the last one is the whole filter, and the values of
     * a relation can be worked out from its first node on. Each has a token of its own, so there are never more.
     */
    private static final class Tree {
        static final int MOST = Tokens.MOST;

        static final int NUMBER = 0;
        static final int LENGTH = 1;
        static final int ACCESS = 2;
        static final int PAIR = 3;
        static final int RELATION = 4;
        static final int PROTOCOL = 5;
        static final int HOST = 6;
        static final int NET = 7;
        static final int PORT = 8;
        static final int NOT = 9;
        static final int AND = 10;
        static final int OR = 11;

        final int[] kind;
        /** The sign of a pair or relation, the protocol of an access, the end that a host, net or port asks for. */
        final int[] sort;
        final int[] left;
        final int[] right;
        /** Of a relation: the first node of its values. */
        final int[] first;
        /** The number, address or port; the bytes of an access; the protocols that a relation asks for. */
        final long[] number;
        final long[] mask;
        private int size;

        Tree() {
            kind = new int[MOST];
            sort = new int[MOST];
            left = new int[MOST];
            right = new int[MOST];
            first = new int[MOST];
            number = new long[MOST];
            mask = new long[MOST];
        }

        void empty() {
            size = 0;
        }

        int size() {
            return size;
        }

        boolean isNumber(int node) {
            return kind[node] == NUMBER;
        }

        /** A node without parts. */
        int addLeaf(int newKind, int newSort, long newNumber, long newMask) {
            int node = addJoint(newKind, newSort, 0, 0);
            number[node] = newNumber;
            mask[node] = newMask;
            return node;
        }

        int addJoint(int newKind, int newSort, int newLeft, int newRight) {
            int node = size;
            kind[node] = newKind;
            sort[node] = newSort;
            left[node] = newLeft;
            right[node] = newRight;
            size++;
            return node;
        }

        int addAccess(int protocol, int index, long bytes) {
            int node = addJoint(ACCESS, protocol, index, 0);
            number[node] = bytes;
            return node;
        }

        int addRelation(int sign, int newLeft, int newRight, int firstOfValues) {
            int protocols = 0;
            for (int i = firstOfValues; i < size; i++) {
                if (kind[i] == ACCESS) {
                    protocols |= sort[i];
                }
            }
            int node = addJoint(RELATION, sign, newLeft, newRight);
            first[node] = firstOfValues;
            number[node] = protocols;
            return node;
        }
    }

    /** Makes a tree of a text. Brackets are at most 8 deep, which keeps its recursion low. */
    private static final class Parser {
        private static final int DEEPEST = 8;

        private final Tree tree;
        private final Tokens tokens;
        private int at;
        private int depth;

        Parser(Tree tree) {
            this.tree = tree;
            tokens = new Tokens();
        }

        void parse(Text text) {
            tokens.read(text);
            tree.empty();
            at = 0;
            depth = 0;
            filter();
            expect(Tokens.END);
        }

        private int filter() {
            int left = part();
            for (int i = 0; i < Tokens.MOST && accept(Tokens.WORD_OR); i++) {
                int right = part();
                left = tree.addJoint(Tree.OR, 0, left, right);
            }
            return left;
        }

        private int part() {
            int left = unit();
            for (int i = 0; i < Tokens.MOST && accept(Tokens.WORD_AND); i++) {
                int right = unit();
                left = tree.addJoint(Tree.AND, 0, left, right);
            }
            return left;
        }

        private int unit() {
            boolean turned = false;
            for (int i = 0; i < Tokens.MOST && accept(Tokens.WORD_NOT); i++) {
                turned = !turned;
            }
            int inner = unitWithoutNot();
            return turned ? tree.addJoint(Tree.NOT, 0, inner, 0) : inner;
        }

        private int unitWithoutNot() {
            if (accept('(')) {
                enter();
                int inner = filter();
                leave(')');
                return inner;
            }
            int protocol = protocolOf(tokens.kind(at));
            if (protocol > ETHER && tokens.kind(at + 1) != '[') {
                at++;
                return tree.addLeaf(Tree.PROTOCOL, protocol, 0, 0);
            }
            int end = accept(Tokens.WORD_SRC) ? SOURCE : accept(Tokens.WORD_DST) ? TARGET : EITHER_END;
            if (end != EITHER_END || isEndWord(tokens.kind(at))) {
                return endPrimitive(end);
            }
            return relation();
        }

        private int endPrimitive(int end) {
            if (accept(Tokens.WORD_HOST)) {
                return tree.addLeaf(Tree.HOST, end, address(), LOW_32_BITS);
            }
            if (accept(Tokens.WORD_NET)) {
                long address = address();
                expect('/');
                // Shifted as 64 bits, so that a net of 0 bits has a mask of 0.
                long mask = (LOW_32_BITS << (int) (32 - numberUpTo(32))) & LOW_32_BITS;
                return tree.addLeaf(Tree.NET, end, address, mask);
            }
            expect(Tokens.WORD_PORT);
            return tree.addLeaf(Tree.PORT, end, numberUpTo(65535), LOW_32_BITS);
        }

        private long address() {
            long address = numberUpTo(255);
            for (int i = 0; i < 3; i++) {
                expect('.');
                address = address << 8 | numberUpTo(255);
            }
            return address;
        }

        private int relation() {
            int first = tree.size();
            int left = value(1);
            int sign = tokens.kind(at);
            if (!isRelationSign(sign)) {
                throw new IllegalArgumentException();
            }
            at++;
            int right = value(1);
            return tree.addRelation(sign, left, right, first);
        }

        /** A value whose signs outside of brackets bind at least so strongly. */
        private int value(int weakest) {
            int left = item();
            for (int i = 0; i < Tokens.MOST && strength(tokens.kind(at)) >= weakest; i++) {
                int sign = tokens.kind(at);
                at++;
                int right = value(strength(sign) + 1);
                left = tree.addJoint(Tree.PAIR, signNumber(sign), left, right);
            }
            return left;
        }

        private int item() {
            if (tokens.kind(at) == Tokens.NUMBER) {
                return tree.addLeaf(Tree.NUMBER, 0, numberUpTo(LOW_32_BITS), 0);
            }
            if (accept(Tokens.WORD_LEN)) {
                return tree.addLeaf(Tree.LENGTH, 0, 0, 0);
            }
            if (accept('{')) {
                enter();
                int inner = value(1);
                leave('}');
                return inner;
            }
            return access();
        }

        private int access() {
            int protocol = protocolOf(tokens.kind(at));
            if (protocol < 0) {
                throw new IllegalArgumentException();
            }
            at++;
            expect('[');
            enter();
            int index = value(1);
            long bytes = accept(':') ? numberUpTo(4) : 1;
            if (bytes == 0 || bytes == 3) {
                throw new IllegalArgumentException();
            }
            leave(']');
            return tree.addAccess(protocol, index, bytes);
        }

        private void enter() {
            if (depth == DEEPEST) {
                throw new IllegalArgumentException();
            }
            depth++;
        }

        private void leave(int bracket) {
            expect(bracket);
            depth--;
        }

        private boolean accept(int kind) {
            boolean there = tokens.kind(at) == kind;
            if (there) {
                at++;
            }
            return there;
        }

        private void expect(int kind) {
            if (tokens.kind(at) != kind) {
                throw new IllegalArgumentException();
            }
            at++;
        }

        private long numberUpTo(long biggest) {
            long number = tokens.number(at);
            expect(Tokens.NUMBER);
            if (number > biggest) {
                throw new IllegalArgumentException();
            }
            return number;
        }

        private static int protocolOf(int kind) {
            switch (kind) {
                case Tokens.WORD_ETHER:
                    return ETHER;
                case Tokens.WORD_IP:
                    return IP;
                case Tokens.WORD_TCP:
                    return TCP;
                case Tokens.WORD_UDP:
                    return UDP;
                default:
                    return -1;
            }
        }

        private static boolean isEndWord(int kind) {
            return kind == Tokens.WORD_HOST || kind == Tokens.WORD_NET || kind == Tokens.WORD_PORT;
        }

        private static boolean isRelationSign(int kind) {
            return kind == '=' || kind == '<' || kind == '>'
                    || kind == Tokens.NOT_EQUAL || kind == Tokens.AT_MOST || kind == Tokens.AT_LEAST;
        }

        /** 0 for what is no sign of a value: it ends the value. */
        private static int strength(int kind) {
            switch (kind) {
                case '*':
                case '/':
                    return 5;
                case '+':
                case '-':
                    return 4;
                case Tokens.SHIFT_LEFT:
                case Tokens.SHIFT_RIGHT:
                    return 3;
                case '&':
                    return 2;
                case '|':
                    return 1;
                default:
                    return 0;
            }
        }

        private static int signNumber(int kind) {
            switch (kind) {
                case '+':
                    return PLUS;
                case '-':
                    return MINUS;
                case '*':
                    return TIMES;
                case '/':
                    return OVER;
                case Tokens.SHIFT_LEFT:
                    return SHIFTED_LEFT;
                case Tokens.SHIFT_RIGHT:
                    return SHIFTED_RIGHT;
                case '&':
                    return BITS_OF_BOTH;
                default:
                    return BITS_OF_EITHER;
            }
        }
    }

    /** The bytes that a filter is asked about, and where its headers have what filters look at. */
    private static final class Packet {
        static final int MOST = 80;

        static final int TYPE_PLACE = 12;
        static final int TYPE_IP = 2048;
        static final int HEADER_PLACE = 14;
        static final int FRAGMENT_PLACE = 20;
        static final int FRAGMENT_BITS = 8191;
        static final int PROTOCOL_PLACE = 23;
        static final int SOURCE_PLACE = 26;
        static final int TARGET_PLACE = 30;
        /** The ports stand at these places and HEAD. */
        static final int SOURCE_PORT_PLACE = 14;
        static final int TARGET_PORT_PLACE = 16;

        private final int[] bytes;
        private int length;

        Packet() {
            bytes = new int[MOST];
        }

        static int protocolNumber(int protocol) {
            return protocol == TCP ? 6 : 17;
        }

        int length() {
            return length;
        }

        boolean hasRoom(int n) {
            return length + n <= MOST;
        }

        void append(long packed, int n) {
            for (int i = 0; i < n; i++) {
                bytes[length + i] = byteOf(packed, i);
            }
            length += n;
        }

        void shorten(int n) {
            length = n;
        }

        int replace(int place, int v) {
            int was = bytes[place];
            bytes[place] = v & 255;
            return was;
        }

        /** The bytes from a place on as a number, REJECTED when they aren't all there. */
        long field(long place, int size) {
            if (place + size > length) {
                return REJECTED;
            }
            long number = 0;
            for (int i = 0; i < size; i++) {
                number = number << 8 | bytes[(int) place + i];
            }
            return number;
        }

        /** How long the header at a place is by its first byte, REJECTED when that isn't there. */
        long headerLength(long place) {
            long first = field(place, 1);
            return first == REJECTED ? REJECTED : 4 * (first & 15);
        }
    }

    /** Says of the packet what the tree of a filter says, without its program. */
    private static final class Judge {
        private static final int FAILS = 0;
        private static final int HOLDS = 1;
        private static final int REJECTS = -1;

        private final Tree tree;
        private final Packet packet;
        private final long[] worth;

        Judge(Tree tree, Packet packet) {
            this.tree = tree;
            this.packet = packet;
            worth = new long[Tree.MOST];
        }

        int judge() {
            return verdict(tree.size() - 1);
        }

        /** Goes no deeper than the text has room for words that join, some forty levels. */
        private int verdict(int node) {
            int first;
            switch (tree.kind[node]) {
                case Tree.AND:
                    first = verdict(tree.left[node]);
                    return first == HOLDS ? verdict(tree.right[node]) : first;
                case Tree.OR:
                    first = verdict(tree.left[node]);
                    return first == FAILS ? verdict(tree.right[node]) : first;
                case Tree.NOT:
                    first = verdict(tree.left[node]);
                    return first == REJECTS ? REJECTS : HOLDS - first;
                case Tree.PROTOCOL:
                    return protocol(tree.sort[node]);
                case Tree.PORT:
                    return port(node);
                case Tree.RELATION:
                    return relation(node);
                default:
                    return address(node);
            }
        }

        private int protocol(int protocol) {
            int ip = same(packet.field(Packet.TYPE_PLACE, 2), Packet.TYPE_IP, LOW_32_BITS);
            if (ip != HOLDS || protocol == IP) {
                return ip;
            }
            return same(packet.field(Packet.PROTOCOL_PLACE, 1), Packet.protocolNumber(protocol), LOW_32_BITS);
        }

        private int whole() {
            return same(packet.field(Packet.FRAGMENT_PLACE, 2), 0, Packet.FRAGMENT_BITS);
        }

        private int address(int node) {
            int ip = protocol(IP);
            return ip == HOLDS ? ends(node, Packet.SOURCE_PLACE, Packet.TARGET_PLACE, 4) : ip;
        }

        private int port(int node) {
            int found = protocol(TCP);
            if (found == FAILS) {
                found = protocol(UDP);
            }
            if (found == HOLDS) {
                found = whole();
            }
            if (found != HOLDS) {
                return found;
            }
            long head = packet.headerLength(Packet.HEADER_PLACE);
            return ends(node, Packet.SOURCE_PORT_PLACE + head, Packet.TARGET_PORT_PLACE + head, 2);
        }

        private int ends(int node, long source, long target, int bytes) {
            int found = FAILS;
            if (tree.sort[node] != TARGET) {
                found = same(packet.field(source, bytes), tree.number[node], tree.mask[node]);
            }
            if (tree.sort[node] == SOURCE || found != FAILS) {
                return found;
            }
            return same(packet.field(target, bytes), tree.number[node], tree.mask[node]);
        }

        private int relation(int node) {
            int asked = protocols((int) tree.number[node]);
            if (asked != HOLDS) {
                return asked;
            }
            for (int i = tree.first[node]; i < node; i++) {
                worth[i] = value(i);
                if (worth[i] == REJECTED) {
                    return REJECTS;
                }
            }
            long left = worth[tree.left[node]];
            long right = worth[tree.right[node]];
            return compares(tree.sort[node], left, right) ? HOLDS : FAILS;
        }

        private int protocols(int asked) {
            int found = HOLDS;
            if ((asked & IP) != 0) {
                found = protocol(IP);
            }
            if (found == HOLDS && (asked & TCP) != 0) {
                found = wholeProtocol(TCP);
            }
            if (found == HOLDS && (asked & UDP) != 0) {
                found = wholeProtocol(UDP);
            }
            return found;
        }

        private int wholeProtocol(int protocol) {
            int found = protocol(protocol);
            return found == HOLDS ? whole() : found;
        }

        /** What a node of a value is worth, when its parts have been worked out already. */
        private long value(int node) {
            switch (tree.kind[node]) {
                case Tree.NUMBER:
                    return tree.number[node];
                case Tree.LENGTH:
                    return packet.length();
                case Tree.ACCESS:
                    return access(tree.sort[node], worth[tree.left[node]], (int) tree.number[node]);
                default:
                    return combine(tree.sort[node], worth[tree.left[node]], worth[tree.right[node]]);
            }
        }

        private long access(int protocol, long index, int bytes) {
            long start = protocol == ETHER ? 0 : Packet.HEADER_PLACE;
            if (protocol == TCP || protocol == UDP) {
                // HEAD's byte is there: the protocol's, which stands behind it, has been looked at.
                start += packet.headerLength(Packet.HEADER_PLACE);
            }
            return packet.field((start + index) & LOW_32_BITS, bytes);
        }

        private static int same(long found, long wanted, long mask) {
            if (found == REJECTED) {
                return REJECTS;
            }
            return (found & mask) == (wanted & mask) ? HOLDS : FAILS;
        }

        private static boolean compares(int sign, long a, long b) {
            switch (sign) {
                case '=':
                    return a == b;
                case '<':
                    return a < b;
                case '>':
                    return a > b;
                case Tokens.NOT_EQUAL:
                    return a != b;
                case Tokens.AT_MOST:
                    return a <= b;
                default:
                    return a >= b;
            }
        }
    }

    /** Instructions in rows, which are filled from the back: a way only leads forward, so its goal is there by then. */
    private static final class Program {
        static final int MOST = 150;

        static final int A_NUMBER = 0;
        static final int A_LENGTH = 1;
        /** This and the next two: 1, 2 or 4 bytes. */
        static final int A_FIELD = 2;
        static final int A_FIELD_AT_X = 5;
        static final int X_HEAD = 8;
        static final int A_CELL = 9;
        static final int X_CELL = 10;
        static final int CELL_A = 11;
        static final int X_A = 12;
        /** This and the sign. */
        static final int WITH_NUMBER = 20;
        static final int WITH_X = 30;
        static final int IF_EQUAL = 40;
        static final int IF_ABOVE = 41;
        static final int IF_AT_LEAST = 42;
        static final int IF_BITS = 43;
        /** What makes the test with X of that with a number. */
        static final int TEST_WITH_X = 10;
        static final int STOP = 60;

        private final int[] operations;
        private final int[] waysIfSo;
        private final int[] waysIfNot;
        private final long[] numbers;
        private int start;

        Program() {
            operations = new int[MOST];
            waysIfSo = new int[MOST];
            waysIfNot = new int[MOST];
            numbers = new long[MOST];
            start = MOST;
        }

        void empty() {
            start = MOST;
        }

        int size() {
            return MOST - start;
        }

        /** Where what is there begins: the goal for what comes ahead of it. */
        int start() {
            return start;
        }

        int operation(int k) {
            return operations[start + k];
        }

        int wayIfSo(int k) {
            return waysIfSo[start + k];
        }

        int wayIfNot(int k) {
            return waysIfNot[start + k];
        }

        long number(int k) {
            return numbers[start + k];
        }

        void prepend(int operation, long number) {
            if (start == 0) {
                throw new UnsupportedOperationException();
            }
            start--;
            operations[start] = operation;
            waysIfSo[start] = 0;
            waysIfNot[start] = 0;
            numbers[start] = number;
        }

        void prependTest(int operation, long number, int goalIfSo, int goalIfNot) {
            int next = start;
            prepend(operation, number);
            waysIfSo[start] = goalIfSo - next;
            waysIfNot[start] = goalIfNot - next;
        }
    }

    /** Makes the program of a tree, and so each piece of it, from the last instruction to the first. */
    private static final class Coder {
        private final Tree tree;
        private final Program program;

        Coder(Tree tree, Program program) {
            this.tree = tree;
            this.program = program;
        }

        void translate(int snap) {
            program.empty();
            program.prepend(Program.STOP, 0);
            int no = program.start();
            program.prepend(Program.STOP, snap);
            int yes = program.start();
            condition(tree.size() - 1, yes, no);
        }

        /** Goes no deeper than the text has room for words that join, some forty levels. */
        private void condition(int node, int yes, int no) {
            switch (tree.kind[node]) {
                case Tree.AND:
                    condition(tree.right[node], yes, no);
                    condition(tree.left[node], program.start(), no);
                    break;
                case Tree.OR:
                    condition(tree.right[node], yes, no);
                    condition(tree.left[node], yes, program.start());
                    break;
                case Tree.NOT:
                    condition(tree.left[node], no, yes);
                    break;
                case Tree.PROTOCOL:
                    protocol(tree.sort[node], yes, no);
                    break;
                case Tree.PORT:
                    port(node, yes, no);
                    break;
                case Tree.RELATION:
                    relation(node, yes, no);
                    break;
                default:
                    ends(node, Packet.SOURCE_PLACE, Packet.TARGET_PLACE, yes, no);
                    protocol(IP, program.start(), no);
                    break;
            }
        }

        private void protocol(int protocol, int yes, int no) {
            int goal = yes;
            if (protocol != IP) {
                program.prependTest(Program.IF_EQUAL, Packet.protocolNumber(protocol), yes, no);
                field(Packet.PROTOCOL_PLACE, 1);
                goal = program.start();
            }
            program.prependTest(Program.IF_EQUAL, Packet.TYPE_IP, goal, no);
            field(Packet.TYPE_PLACE, 2);
        }

        private void whole(int no) {
            program.prependTest(Program.IF_BITS, Packet.FRAGMENT_BITS, no, program.start());
            field(Packet.FRAGMENT_PLACE, 2);
        }

        private void port(int node, int yes, int no) {
            ends(node, Packet.SOURCE_PORT_PLACE, Packet.TARGET_PORT_PLACE, yes, no);
            program.prepend(Program.X_HEAD, Packet.HEADER_PLACE);
            whole(no);
            int goal = program.start();
            program.prependTest(Program.IF_EQUAL, Packet.protocolNumber(UDP), goal, no);
            program.prependTest(Program.IF_EQUAL, Packet.protocolNumber(TCP), goal, program.start());
            field(Packet.PROTOCOL_PLACE, 1);
            protocol(IP, program.start(), no);
        }

        private void ends(int node, int source, int target, int yes, int no) {
            int goal = no;
            if (tree.sort[node] != SOURCE) {
                end(node, target, yes, no);
                goal = program.start();
            }
            if (tree.sort[node] != TARGET) {
                end(node, source, yes, goal);
            }
        }

        private void end(int node, int place, int yes, int no) {
            program.prependTest(Program.IF_EQUAL, tree.number[node] & tree.mask[node], yes, no);
            if (tree.kind[node] == Tree.NET) {
                program.prepend(Program.WITH_NUMBER + BITS_OF_BOTH, tree.mask[node]);
            }
            if (tree.kind[node] == Tree.PORT) {
                fieldAtX(place, 2);
            } else {
                field(place, 4);
            }
        }

        private void relation(int node, int yes, int no) {
            int sign = tree.sort[node];
            boolean turned = sign == Tokens.NOT_EQUAL || sign == Tokens.AT_MOST || sign == '<';
            comparison(node, turned ? no : yes, turned ? yes : no);
            long protocols = tree.number[node];
            if ((protocols & UDP) != 0) {
                whole(no);
                protocol(UDP, program.start(), no);
            }
            if ((protocols & TCP) != 0) {
                whole(no);
                protocol(TCP, program.start(), no);
            }
            if ((protocols & IP) != 0) {
                protocol(IP, program.start(), no);
            }
        }

        private void comparison(int node, int ifSo, int ifNot) {
            int left = tree.left[node];
            int right = tree.right[node];
            int test = testOf(tree.sort[node]);
            if (tree.isNumber(right)) {
                program.prependTest(test, tree.number[right], ifSo, ifNot);
                value(left, 0);
            } else {
                program.prependTest(test + Program.TEST_WITH_X, 0, ifSo, ifNot);
                twoValues(left, right, 0);
            }
        }

        private static int testOf(int sign) {
            switch (sign) {
                case '=':
                case Tokens.NOT_EQUAL:
                    return Program.IF_EQUAL;
                case '>':
                case Tokens.AT_MOST:
                    return Program.IF_ABOVE;
                default:
                    return Program.IF_AT_LEAST;
            }
        }

        /**
         * The VALUE that uses this cell and those above it. Signs with numbers behind them may be many, and are walked
         * in a loop; for the others a cell is taken, or a bracket or stronger sign is entered, so it can't go deep.
         */
        private void value(int node, int cell) {
            int rest = node;
            for (int i = 0; i < Tree.MOST && isPairWithNumber(rest); i++) {
                program.prepend(Program.WITH_NUMBER + tree.sort[rest], tree.number[tree.right[rest]]);
                rest = tree.left[rest];
            }
            switch (tree.kind[rest]) {
                case Tree.NUMBER:
                    program.prepend(Program.A_NUMBER, tree.number[rest]);
                    break;
                case Tree.LENGTH:
                    program.prepend(Program.A_LENGTH, 0);
                    break;
                case Tree.ACCESS:
                    access(rest, cell);
                    break;
                default:
                    program.prepend(Program.WITH_X + tree.sort[rest], 0);
                    twoValues(tree.left[rest], tree.right[rest], cell);
                    break;
            }
        }

        private boolean isPairWithNumber(int node) {
            return tree.kind[node] == Tree.PAIR && tree.isNumber(tree.right[node]);
        }

        /** The left value in A, and in X the right one, which waits in the cell meanwhile. */
        private void twoValues(int left, int right, int cell) {
            useCell(Program.X_CELL, cell);
            value(left, cell + 1);
            useCell(Program.CELL_A, cell);
            value(right, cell);
        }

        private void access(int node, int cell) {
            int protocol = tree.sort[node];
            int index = tree.left[node];
            int bytes = (int) tree.number[node];
            int start = protocol == ETHER ? 0 : Packet.HEADER_PLACE;
            if (tree.isNumber(index) && (protocol == ETHER || protocol == IP)) {
                field((start + tree.number[index]) & LOW_32_BITS, bytes);
                return;
            }
            fieldAtX(start, bytes);
            program.prepend(Program.X_A, 0);
            if (protocol == TCP || protocol == UDP) {
                program.prepend(Program.WITH_X + PLUS, 0);
                useCell(Program.A_CELL, cell);
                program.prepend(Program.X_HEAD, Packet.HEADER_PLACE);
                useCell(Program.CELL_A, cell);
            }
            value(index, cell);
        }

        /** Half of 1, 2 and 4 bytes is 0, 1 and 2: which of the three operations it is; so at X, too. */
        private void field(long place, int bytes) {
            program.prepend(Program.A_FIELD + bytes / 2, place);
        }

        private void fieldAtX(int place, int bytes) {
            program.prepend(Program.A_FIELD_AT_X + bytes / 2, place);
        }

        private void useCell(int operation, int cell) {
            if (cell >= Machine.CELLS) {
                throw new UnsupportedOperationException();
            }
            program.prepend(operation, cell);
        }
    }

    /** A filter in both its forms, with what makes and asks them. */
    private static final class Filter {
        final Program program;
        final Parser parser;
        final Coder coder;
        final Judge judge;

        Filter(Packet packet) {
            Tree tree = new Tree();
            program = new Program();
            parser = new Parser(tree);
            coder = new Coder(tree, program);
            judge = new Judge(tree, packet);
        }
    }

    /** Runs programs over the packet, and keeps how the latest run ended. */
    private static final class Machine {
        static final int CELLS = 16;

        private final Packet packet;
        private final long[] cells;
        private long a;
        private long x;
        private int done;

        Machine(Packet packet) {
            this.packet = packet;
            cells = new long[CELLS];
        }

        int report(int what) {
            switch (what) {
                case 0:
                    return done;
                case 1:
                    return (int) a;
                case 2:
                    return (int) x;
                default:
                    return what >= 3 && what < 3 + CELLS ? (int) cells[what - 3] : -1;
            }
        }

        int execute(Program program) {
            reset();
            int at = 0;
            for (int i = 0; i < Program.MOST && at < program.size(); i++) {
                int operation = program.operation(at);
                long number = program.number(at);
                done++;
                if (operation == Program.STOP) {
                    return (int) number;
                }
                if (operation >= Program.IF_EQUAL) {
                    at += passes(operation, number) ? program.wayIfSo(at) : program.wayIfNot(at);
                } else if (!works(operation, number)) {
                    return 0;
                }
                at++;
            }
            return 0;
        }

        private void reset() {
            a = 0;
            x = 0;
            done = 0;
            for (int i = 0; i < CELLS; i++) {
                cells[i] = 0;
            }
        }

        private boolean passes(int operation, long number) {
            boolean withX = operation >= Program.IF_EQUAL + Program.TEST_WITH_X;
            long other = withX ? x : number;
            switch (withX ? operation - Program.TEST_WITH_X : operation) {
                case Program.IF_EQUAL:
                    return a == other;
                case Program.IF_ABOVE:
                    return a > other;
                case Program.IF_AT_LEAST:
                    return a >= other;
                default:
                    return (a & other) != 0;
            }
        }

        /** Does an instruction that is no test and no end; when that rejects, it does nothing, and answers false. */
        private boolean works(int operation, long number) {
            int cell = (int) number & (CELLS - 1);
            switch (operation) {
                case Program.X_HEAD:
                    return takesX(packet.headerLength(number));
                case Program.X_CELL:
                    return takesX(cells[cell]);
                case Program.X_A:
                    return takesX(a);
                case Program.CELL_A:
                    cells[cell] = a;
                    return true;
                case Program.A_CELL:
                    return takesA(cells[cell]);
                case Program.A_NUMBER:
                    return takesA(number);
                case Program.A_LENGTH:
                    return takesA(packet.length());
                default:
                    return takesA(fieldOrSum(operation, number));
            }
        }

        private long fieldOrSum(int operation, long number) {
            if (operation >= Program.WITH_X) {
                return combine(operation - Program.WITH_X, a, x);
            }
            if (operation >= Program.WITH_NUMBER) {
                return combine(operation - Program.WITH_NUMBER, a, number);
            }
            if (operation >= Program.A_FIELD_AT_X) {
                return packet.field((x + number) & LOW_32_BITS, 1 << (operation - Program.A_FIELD_AT_X));
            }
            return packet.field(number, 1 << (operation - Program.A_FIELD));
        }

        private boolean takesA(long number) {
            if (number == REJECTED) {
                return false;
            }
            a = number;
            return true;
        }

        private boolean takesX(long number) {
            if (number == REJECTED) {
                return false;
            }
            x = number;
            return true;
        }
    }
}
