/** What every test of the project uses: objects that are told texts, and answers that are due. */
final class Due {
    private final String name;
    private int wrong = 0;
    private int looked = 0;

    Due(String name) {
        this.name = name;
    }

    void is(String call, long got, long want) {
        looked++;
        if (got != want) {
            wrong++;
            if (wrong <= 50) {
                System.out.println(name + ": " + call + " answered " + got + ", due is " + want);
            }
        }
    }

    void is(String call, boolean got, boolean want) {
        is(call, got ? 1 : 0, want ? 1 : 0);
    }

    /** Ends the program with 1 if an answer was not the one due. */
    void end() {
        System.out.println(name + ": " + looked + " answers, " + wrong + " not as due");
        if (wrong != 0 || looked == 0) {
            System.exit(1);
        }
    }

    /** Puts a text on the tape of an object, whose tape is empty. */
    static void tape(LastWalker x, String text) {
        tape(x, text.getBytes(java.nio.charset.StandardCharsets.ISO_8859_1));
    }

    static void tape(LastWalker x, byte[] bytes) {
        int n = bytes.length;
        byte[] padded = java.util.Arrays.copyOf(bytes, (n + 19) / 20 * 20);
        java.nio.ByteBuffer b = java.nio.ByteBuffer.wrap(padded);
        while (b.hasRemaining()) {
            x.feed(b.getInt(), b.getInt(), b.getInt(), b.getInt(), b.getInt());
        }
        x.end(n);
    }

    static int town(LastWalker x, String text) {
        return take(x, text, 0, LastWalker.NONE);
    }

    static int day(LastWalker x, String text) {
        return take(x, text, 1, LastWalker.NONE);
    }

    /** Puts a text on the tape and has it taken. */
    static int take(LastWalker x, String text, int sort, int at) {
        tape(x, text);
        return x.text(sort, at);
    }
}
