import java.nio.charset.StandardCharsets;

/** Counts the answers that are not as due. */
final class Due {
    private int asked;
    private int wrong;

    void is(String call, long want, long got) {
        asked++;
        if (got != want) {
            wrong++;
            System.out.println(call + " answered " + got + ", due is " + want);
        }
    }

    /** Ends the test: with exit code 1 if an answer was not as due. */
    void close() {
        System.out.println(asked + " answers, " + wrong + " not as due");
        if (wrong != 0 || asked == 0) {
            System.exit(1);
        }
    }

    /** Puts bytes behind the tape, in twenties, and cuts off what was fed too much. */
    static int feed(SkyMargins x, int... bytes) {
        int size = x.count(7);
        for (int at = 0; at < bytes.length; at += 20) {
            int[] n = new int[5];
            for (int i = 0; i < 20; i++) {
                int b = at + i < bytes.length ? bytes[at + i] : 0;
                n[i / 4] |= (b & 255) << 24 - i % 4 * 8;
            }
            x.feed(n[0], n[1], n[2], n[3], n[4]);
        }
        return x.end(size + bytes.length);
    }

    static int feed(SkyMargins x, String text) {
        byte[] signs = text.getBytes(StandardCharsets.ISO_8859_1);
        int[] bytes = new int[signs.length];
        for (int i = 0; i < bytes.length; i++) {
            bytes[i] = signs[i];
        }
        return feed(x, bytes);
    }

    /** Feeds a text and reads it. */
    static int text(SkyMargins x, String text) {
        feed(x, text);
        return x.text();
    }

    /** Feeds a text, reads it and takes it into use. */
    static void use(SkyMargins x, String text) {
        x.use(text(x, text));
    }

    /** A written note in no known hand. */
    static int write(SkyMargins x, int copy, int place, int wording) {
        return x.note(copy, place, wording, SkyMargins.NONE, 0);
    }

    static SkyMargins withCopies(int many) {
        SkyMargins x = new SkyMargins();
        for (int copy = 0; copy < many; copy++) {
            x.copy(0, 0);
        }
        return x;
    }
}
