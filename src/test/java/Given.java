import java.util.Arrays;
import java.util.Collections;

/** What the tests begin with: sieves with texts, filters and packets. */
final class Given {
    static final String BAD = "throws.IllegalArgumentException";
    static final String EARLY = "throws.IllegalStateException";
    static final String TOO_LONG = "throws.UnsupportedOperationException";

    static final int SNAP = 1500;
    static final int[] EMPTY = {};

    private Given() {
    }

    static long packed(int... bytes) {
        long packed = 0;
        for (int i = bytes.length - 1; i >= 0; i--) {
            packed = packed << 8 | bytes[i] & 255;
        }
        return packed;
    }

    static long packed(String text) {
        return packed(text.chars().toArray());
    }

    static void type(Sieve sieve, String text) {
        for (int i = 0; i < text.length(); i += 8) {
            String piece = text.substring(i, Math.min(i + 8, text.length()));
            sieve.type(packed(piece), piece.length());
        }
    }

    static void packet(Sieve sieve, int... bytes) {
        sieve.cut(0);
        for (int i = 0; i < bytes.length; i += 8) {
            int[] piece = Arrays.copyOfRange(bytes, i, Math.min(i + 8, bytes.length));
            sieve.put(packed(piece), piece.length);
        }
    }

    static Sieve typed(String text) {
        Sieve sieve = new Sieve(SNAP);
        type(sieve, text);
        return sieve;
    }

    static Sieve compiled(String text) {
        Sieve sieve = typed(text);
        sieve.compile();
        return sieve;
    }

    static Sieve compiled(String text, int... packet) {
        Sieve sieve = compiled(text);
        packet(sieve, packet);
        return sieve;
    }

    /** An instruction as its operation, two ways and number, with blanks between. */
    static String instruction(Sieve sieve, int k) {
        StringBuilder row = new StringBuilder();
        for (int what = 0; what < 4; what++) {
            row.append(what == 0 ? "" : " ").append(sieve.instruction(k, what));
        }
        return row.toString();
    }

    /** From 1.2.3.4, port 1000, to 5.6.7.8, port 80, with a header of 4 * words bytes; 60 bytes. */
    static int[] ip(int protocol, int words) {
        int[] bytes = new int[60];
        bytes[12] = 8;
        bytes[14] = 0x40 | words;
        bytes[23] = protocol;
        for (int i = 0; i < 8; i++) {
            bytes[26 + i] = i + 1;
        }
        int ports = 14 + 4 * words;
        if (ports + 4 <= bytes.length) {
            bytes[ports] = 1000 >> 8;
            bytes[ports + 1] = 1000 & 255;
            bytes[ports + 3] = 80;
        }
        return bytes;
    }

    static int[] tcp() {
        return ip(6, 5);
    }

    static int[] udp() {
        return ip(17, 6);
    }

    static int[] with(int[] packet, int place, int v) {
        int[] changed = packet.clone();
        changed[place] = v;
        return changed;
    }

    static int[] first(int[] packet, int n) {
        return Arrays.copyOf(packet, n);
    }

    static String repeated(String text, int times, String between) {
        return String.join(between, Collections.nCopies(times, text));
    }
}
