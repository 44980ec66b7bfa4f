import java.nio.charset.StandardCharsets;

/** Feeds whole texts, as feed() takes only twenty bytes. */
final class Texts {
    private Texts() {
    }

    /** The text is on the tape alone then. */
    static void feed(CricketHay hay, String text) {
        byte[] bytes = text.getBytes(StandardCharsets.ISO_8859_1);
        hay.end(0);
        for (int at = 0; at < bytes.length; at += 20) {
            hay.feed(four(bytes, at), four(bytes, at + 4), four(bytes, at + 8),
                four(bytes, at + 12), four(bytes, at + 16));
        }
        hay.end(bytes.length);
    }

    static int four(byte[] bytes, int at) {
        int value = 0;
        for (int i = at; i < at + 4; i++) {
            value = value << 8 | (i < bytes.length ? bytes[i] & 255 : 0);
        }
        return value;
    }

    static int market(CricketHay hay, String text) {
        feed(hay, text);
        return hay.market();
    }

    static CricketHay of(String text) {
        CricketHay hay = new CricketHay();
        if (market(hay, text) == CricketHay.NONE) {
            throw new IllegalStateException("fault " + hay.fault(0) + " at " + hay.fault(1)
                + " of a test's own text: " + text);
        }
        return hay;
    }
}
