import java.nio.charset.StandardCharsets;

/** Compares answers with those that are due, and ends the test with exit code 1 if one was not. */
final class Check {
    private final String test;
    private int asked;
    private int wrong;

    Check(String test) {
        this.test = test;
    }

    void due(String call, long got, long want) {
        asked++;
        if (got != want) {
            wrong++;
            System.out.println(test + ": " + call + " answered " + got + ", due is " + want);
        }
    }

    void finish() {
        System.out.println(test + ": " + asked + " answers, " + wrong + " not as due");
        if (wrong != 0 || asked == 0) {
            System.exit(1);
        }
    }

    /** Writes a text, as many bytes a call as there may be. */
    static void tell(NinePence x, String text) {
        byte[] bytes = text.getBytes(StandardCharsets.ISO_8859_1);
        for (int from = 0; from < bytes.length; from += 8) {
            int n = Math.min(8, bytes.length - from);
            x.write(packed(bytes, from, n), n);
        }
    }

    static long packed(byte[] bytes, int from, int n) {
        long packed = 0;
        for (int i = 0; i < n; i++) {
            packed |= (bytes[from + i] & 255L) << 8 * i;
        }
        return packed;
    }

    /** Writes a text, which must be without fault, and has it done. */
    static void done(NinePence x, String text) {
        tell(x, text);
        if (x.book() < 1) {
            throw new IllegalStateException("not a text: " + text);
        }
    }

    /** A new object to which texts were told; each must be without fault. */
    static NinePence told(String... texts) {
        NinePence x = new NinePence();
        for (String text : texts) {
            done(x, text);
        }
        return x;
    }
}
