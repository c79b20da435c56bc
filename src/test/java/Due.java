import java.nio.charset.StandardCharsets;

/** What the project's tests share: counting wrong answers, and laying texts on the tape. */
final class Due {
    static final long NO_VALUE = -10000000000000L;

    private static int asked = 0;
    private static int wrong = 0;

    private Due() {
    }

    static void due(String what, long got, long want) {
        asked++;
        if (got != want) {
            wrong++;
            System.out.println(what + " answered " + got + ", due is " + want);
        }
    }

    static void due(String what, boolean got, boolean want) {
        due(what, got ? 1 : 0, want ? 1 : 0);
    }

    /** Lays just this text on the tape. */
    static void lay(ThinkNumber x, String text) {
        byte[] bytes = text.getBytes(StandardCharsets.ISO_8859_1);
        x.end(0);
        for (int i = 0; i < bytes.length; i += 20) {
            x.feed(four(bytes, i), four(bytes, i + 4), four(bytes, i + 8), four(bytes, i + 12),
                four(bytes, i + 16));
        }
        x.end(bytes.length);
    }

    static int table(ThinkNumber x, String text) {
        lay(x, text);
        return x.table();
    }

    /** A new object with one table. */
    static ThinkNumber with(String text) {
        ThinkNumber x = new ThinkNumber();
        due("table of \"" + text + "\"", table(x, text), 0);
        return x;
    }

    static void finish(String name) {
        System.out.println(name + ": " + asked + " answers, " + wrong + " not as due");
        if (wrong != 0) {
            System.exit(1);
        }
    }

    private static int four(byte[] bytes, int from) {
        int all = 0;
        for (int i = from; i < from + 4; i++) {
            all = all << 8 | (i < bytes.length ? bytes[i] & 255 : 0);
        }
        return all;
    }
}
