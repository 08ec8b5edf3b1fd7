/** What all tests share: texts onto the tape, and answers held against those that are due. */
final class Check {
    static final int NONE = RoundAnothers.NONE;
    private int wrong;
    private int calls;

    void due(String call, long got, long want) {
        calls++;
        if (got != want) {
            wrong++;
            System.out.println(call + " answered " + got + ", due is " + want);
        }
    }

    void due(String call, boolean got, boolean want) {
        due(call, got ? 1 : 0, want ? 1 : 0);
    }

    void end() {
        System.out.println(calls + " answers, " + wrong + " not as due");
        if (wrong != 0 || calls == 0) {
            System.exit(1);
        }
    }

    /** The tape is this text, and nothing else. */
    static void write(RoundAnothers it, String text) {
        it.end(0);
        for (int at = 0; at < text.length(); at += 20) {
            int[] five = new int[5];
            for (int i = 0; i < 20 && at + i < text.length(); i++) {
                five[i / 4] |= text.charAt(at + i) << 24 - 8 * (i % 4);
            }
            it.feed(five[0], five[1], five[2], five[3], five[4]);
        }
        it.end(text.length());
    }

    static int land(RoundAnothers it, String text) {
        write(it, text);
        return it.land();
    }

    static int law(RoundAnothers it, String text) {
        write(it, text);
        return it.text(0);
    }

    static int wish(RoundAnothers it, String text) {
        write(it, text);
        return it.text(1);
    }

    static RoundAnothers object(String land, String... laws) {
        RoundAnothers it = new RoundAnothers();
        land(it, land);
        for (String law : laws) {
            law(it, law);
        }
        return it;
    }

    /** What is answered for a fault. */
    static int fault(int place, int sort) {
        return -2 - (1 + 8 * place + sort);
    }
}
