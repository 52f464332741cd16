import java.nio.charset.StandardCharsets;

/** Counts and prints answers that are not the ones due, and writes texts into objects. */
final class Due {
    static final int BAD = -1, NO = -2, FULL = -3, NONE = -4, SPENT = -5;

    private final String about;
    private int wrong = 0;

    Due(String about) {
        this.about = about;
    }

    void is(String call, long got, long want) {
        if (got != want) {
            wrong++;
            System.out.println(about + ": " + call + " answered " + got + ", due is " + want);
        }
    }

    void holds(String what, boolean so) {
        is(what, so ? 1 : 0, 1);
    }

    void finish() {
        if (wrong != 0) {
            System.out.println(about + ": " + wrong + " answers are not as due");
            System.exit(1);
        }
    }

    /** Writes a text in pieces of eight bytes; answers what the last write answered. */
    static int write(TwoMetals x, String text) {
        byte[] bytes = text.getBytes(StandardCharsets.ISO_8859_1);
        int answer = 0;
        for (int from = 0; from < bytes.length; from += 8) {
            int n = Math.min(8, bytes.length - from);
            long v = 0;
            for (int i = 0; i < n; i++) {
                v = v << 8 | bytes[from + i] & 255;
            }
            answer = x.write(n, v);
        }
        return answer;
    }

    static int faultOf(String text) {
        TwoMetals x = new TwoMetals();
        write(x, text);
        return x.fault();
    }

    /** A new object in which the text is laid. */
    static TwoMetals laid(String text) {
        TwoMetals x = new TwoMetals();
        write(x, text);
        int realms = x.lay();
        if (realms < 0) {
            throw new IllegalStateException("a test's own text has a fault: " + text);
        }
        return x;
    }

    static void years(TwoMetals x, int n) {
        for (int i = 0; i < n; i++) {
            x.year();
        }
    }
}
