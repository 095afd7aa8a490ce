/** What a filter says of a packet, asked at once and by its program: the answers have to agree. */
final class Verdict {
    private final Check check;

    Verdict(Check check) {
        this.check = check;
    }

    void says(String text, int[] packet, int due) {
        says(Given.compiled(text), text, packet, due);
    }

    /** Of one packet after the other, by the same object: each costs it some fifteen calls. */
    void says(Sieve sieve, String text, int[] packet, int due) {
        Given.packet(sieve, packet);
        String of = " of \"" + text + "\" over " + packet.length + " bytes";
        check.due("holds()" + of, due, sieve::holds);
        check.due("run()" + of, due == 1 ? Given.SNAP : 0, sieve::run);
        check.due("holds()" + of + ", behind run(),", due, sieve::holds);
    }

    void eachSays(int[] packet, int due, String... texts) {
        for (String text : texts) {
            says(text, packet, due);
        }
    }
}
