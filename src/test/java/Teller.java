import java.nio.charset.StandardCharsets;

/** Puts texts on the tape, and counts answers that are not the ones that are due. */
final class Teller {
    private int wrong = 0;
    private int asked = 0;
    private String sentence = "";
    private int askedBefore = 0;

    static byte[] bytes(String text) {
        return text.getBytes(StandardCharsets.ISO_8859_1);
    }

    /** The tape has this text behind what it had; the text fits with its padding to a multiple of twenty. */
    static void tape(CorkedTalk x, byte[] text, int already) {
        for (int at = 0; at < text.length; at += 20) {
            int[] w = new int[5];
            for (int i = 0; i < 20; i++) {
                int b = at + i < text.length ? text[at + i] & 255 : 32;
                w[i / 4] = w[i / 4] << 8 | b;
            }
            if (x.feed(w[0], w[1], w[2], w[3], w[4]) == CorkedTalk.NONE) {
                throw new IllegalStateException("the tape is full");
            }
        }
        if (x.end(already + text.length) != already + text.length) {
            throw new IllegalStateException("the tape has not its length");
        }
    }

    static int tell(CorkedTalk x, int sort, int at, String text) {
        x.end(0);
        tape(x, bytes(text), 0);
        return x.text(sort, at);
    }

    /** A new object with this cellar, and with these years and this log, if they are not null. */
    static CorkedTalk told(String cellar, String years, String log) {
        CorkedTalk x = new CorkedTalk();
        String[] texts = {cellar, years, log};
        for (int sort = 0; sort < 3; sort++) {
            if (texts[sort] != null && tell(x, sort, CorkedTalk.NONE, texts[sort]) != 0) {
                throw new IllegalStateException("no text: " + texts[sort]);
            }
        }
        return x;
    }

    static CorkedTalk cellar(String text) {
        return told(text, null, null);
    }

    /** The document's sentence that the answers from here on are due by. */
    void says(String words) {
        closeSentence();
        sentence = words;
        askedBefore = asked;
    }

    private void closeSentence() {
        if (!sentence.isEmpty() && asked == askedBefore) {
            wrong++;
            System.out.println("nothing was asked by: " + sentence);
        }
    }

    void due(String call, long want, long got) {
        asked++;
        if (got != want) {
            wrong++;
            if (wrong <= 40) {
                System.out.println(call + " answered " + got + ", due is " + want + (sentence.isEmpty() ? "" : " by: " + sentence));
            }
        }
    }

    void due(String call, boolean want, boolean got) {
        due(call, want ? 1 : 0, got ? 1 : 0);
    }

    void finish(String name) {
        closeSentence();
        System.out.println(name + ": " + asked + " answers, " + wrong + " not as due");
        if (wrong != 0 || asked == 0) {
            System.exit(1);
        }
    }
}
