/** Promises 10 and 11: run, and the state that it leaves. */
public final class StateTest {
    public static void main(String[] args) {
        Check check = new Check();
        ends(check);
        rejections(check);
        latest(check);
        outside(check);
        check.finish();
    }

    /** The states due from 0 on; those behind them are 0. */
    private static void states(Check check, String when, PacketSieve sieve, int... due) {
        for (int what = 0; what <= 18; what++) {
            int asked = what;
            check.due("state(" + what + ") " + when, what < due.length ? due[what] : 0, () -> sieve.state(asked));
        }
    }

    private static void runs(Check check, String text, int[] packet, int answer, int... due) {
        PacketSieve sieve = Given.compiled(text);
        Given.packet(sieve, packet);
        check.due("run() of \"" + text + "\"", answer, sieve::run);
        states(check, "behind \"" + text + "\"", sieve, due);
    }

    private static void ends(Check check) {
        int[] packet = Given.tcp();
        runs(check, "ip", packet, Given.SNAP, 3, 2048);
        runs(check, "udp", packet, 0, 5, 6);
        runs(check, "port 1000", packet, Given.SNAP, 10, 1000, 20);
        runs(check, "port 9", packet, 0, 12, 80, 20);
        runs(check, "src net 1.2.3.4/24", packet, Given.SNAP, 6, 16909056);
        runs(check, "0-1=0", packet, 0, 4, -1);
        runs(check, "len=0-1", packet, 0, 7, 60, -1, -1);
        runs(check, "len-{2<<30}*2=len", packet, Given.SNAP, 12, 60, 60, 60, 0);
        runs(check, "1+len=len+len+{len}", packet, 0, 18, 61, 180, 180, 60);
        runs(check, Given.repeated("len", 17, "+") + "=1", packet, 0, 67, 1020, 60, 60, 60, 60, 60, 60, 60, 60, 60, 60, 60,
                60, 60, 60, 60, 60, 60);
        runs(check, "tcp[12+0:2]=0", packet, Given.SNAP, 16, 0, 32, 12);
    }

    private static void rejections(Check check) {
        int[] packet = Given.tcp();
        runs(check, "ip", new int[13], 0, 1);
        runs(check, "7/0=1", packet, 0, 2, 7);
        runs(check, "7/{len-len}=1", packet, 0, 9, 7, 0, 0);
        runs(check, "ether[len]=1", packet, 0, 3, 60, 60);
        runs(check, "ether[59:2]=1", packet, 0, 1);
        runs(check, "port 0", Given.ip(6, 15), 0, 8, 0, 60);
        runs(check, "ip or 1/0=1", new int[14], 0, 4, 1);
    }

    private static void latest(Check check) {
        PacketSieve sieve = Given.compiled("tcp[12+0:2]=0");
        check.due("state(0) ahead of a run", 0, () -> sieve.state(0));
        Given.packet(sieve, Given.tcp());
        sieve.holds();
        states(check, "behind holds() alone", sieve);
        sieve.run();
        states(check, "behind run()", sieve, 16, 0, 32, 12);
        sieve.set(23, 1);
        sieve.holds();
        Given.type(sieve, "len");
        Check.answer(sieve::compile);
        sieve.cut(20);
        states(check, "behind other calls", sieve, 16, 0, 32, 12);
        Given.type(sieve, "=len");
        sieve.compile();
        states(check, "behind compile()", sieve, 16, 0, 32, 12);
        check.due("run()", Given.SNAP, sieve::run);
        states(check, "behind a second run(), which began anew", sieve, 6, 20, 20, 20);
        Given.type(sieve, "ip");
        sieve.compile();
        sieve.cut(0);
        check.due("run() that rejects", 0, sieve::run);
        states(check, "behind a third run()", sieve, 1);
        PacketSieve none = new PacketSieve(1);
        Check.answer(none::run);
        states(check, "behind a run() that throws", none);
    }

    private static void outside(Check check) {
        PacketSieve sieve = new PacketSieve(1);
        for (int what : new int[] {-1, 19, 20, Integer.MIN_VALUE, Integer.MAX_VALUE}) {
            check.due("state(" + what + ") ahead of a run", -1, () -> sieve.state(what));
        }
        Given.type(sieve, "1=1");
        sieve.compile();
        sieve.run();
        for (int what : new int[] {-1, 19, 20, Integer.MIN_VALUE, Integer.MAX_VALUE}) {
            check.due("state(" + what + ")", -1, () -> sieve.state(what));
        }
    }
}
