/** What the tests begin with: sieves with texts, filters and packets. */
final class Given {
    static final String BAD = "throws.IllegalArgumentException";
    static final String EARLY = "throws.IllegalStateException";
    static final String TOO_LONG = "throws.UnsupportedOperationException";

    static final int SNAP = 1500;

    private Given() {
    }

    static long packed(int... bytes) {
        long packed = 0;
        for (int i = bytes.length - 1; i >= 0; i--) {
            packed = packed << 8 | bytes[i] & 255;
        }
        return packed;
    }

    static long packed(String text) {
        return packed(text.chars().toArray());
    }

    static void type(PacketSieve sieve, String text) {
        for (int i = 0; i < text.length(); i += 8) {
            String piece = text.substring(i, Math.min(i + 8, text.length()));
            sieve.type(packed(piece), piece.length());
        }
    }

    static void packet(PacketSieve sieve, int... bytes) {
        sieve.cut(0);
        for (int b : bytes) {
            sieve.put(b, 1);
        }
    }

    static PacketSieve typed(String text) {
        PacketSieve sieve = new PacketSieve(SNAP);
        type(sieve, text);
        return sieve;
    }

    static PacketSieve compiled(String text) {
        PacketSieve sieve = typed(text);
        sieve.compile();
        return sieve;
    }

    /** From 1.2.3.4, port 1000, to 5.6.7.8, port 80, with a header of 4 * words bytes; 60 bytes. */
    static int[] ip(int protocol, int words) {
        int[] bytes = new int[60];
        bytes[12] = 8;
        bytes[14] = 0x40 | words;
        bytes[23] = protocol;
        for (int i = 0; i < 8; i++) {
            bytes[26 + i] = i + 1;
        }
        int ports = 14 + 4 * words;
        if (ports + 4 <= bytes.length) {
            bytes[ports] = 1000 >> 8;
            bytes[ports + 1] = 1000 & 255;
            bytes[ports + 3] = 80;
        }
        return bytes;
    }

    static int[] tcp() {
        return ip(6, 5);
    }

    static int[] udp() {
        return ip(17, 6);
    }

    static String repeated(String text, int times, String between) {
        return String.join(between, java.util.Collections.nCopies(times, text));
    }
}
