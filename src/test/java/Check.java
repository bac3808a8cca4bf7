/** What the tests share: it counts the answers that are not as due, and puts texts on the tape. */
final class Check {
    private final String test;
    private int asked;
    private int wrong;

    Check(String test) {
        this.test = test;
    }

    void due(String call, long got, long want) {
        asked++;
        if (got != want) {
            wrong++;
            System.out.println(test + ": " + call + " answered " + got + ", due is " + want);
        }
    }

    void due(String call, boolean got, boolean want) {
        due(call, got ? 1 : 0, want ? 1 : 0);
    }

    /** An answer, and the STATUS that it leaves. */
    void due(String call, ChordWords x, long got, long want, int status) {
        due(call, got, want);
        due(call + " leaves the status", x.status(), status);
    }

    int wrong() {
        return wrong;
    }

    /** To be called last: it ends the machine with 1 if an answer was wrong. */
    void end() {
        System.out.println(test + ": " + asked + " answers asked, " + wrong + " not as due");
        if (wrong != 0 || asked == 0) {
            System.exit(1);
        }
    }

    /** Puts a text behind what is on the tape, with zeros up to the next twenty bytes; tells the text's length. */
    static int feed(ChordWords x, String text) {
        for (int from = 0; from < text.length(); from += 20) {
            x.feed(four(text, from), four(text, from + 4), four(text, from + 8), four(text, from + 12),
                    four(text, from + 16));
        }
        return text.length();
    }

    static int four(String text, int from) {
        int bytes = 0;
        for (int i = from; i < from + 4; i++) {
            bytes = bytes << 8 | (i < text.length() ? text.charAt(i) & 255 : 0);
        }
        return bytes;
    }

    static int load(ChordWords x, String text) {
        return x.load(feed(x, text));
    }

    /** A new object whose network a text tells. */
    static ChordWords loaded(String text) {
        ChordWords x = new ChordWords();
        if (load(x, text) < 0) {
            throw new IllegalStateException("the test's text has a fault: " + text);
        }
        return x;
    }
}
