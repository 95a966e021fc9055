/** What the tests share: answers that are due, texts that are fed, boxes. */
final class Check {
    static final String LETTERS = "abclmrsqtx";
    static final int FAR = 1000000000;
    private static int wrong = 0;
    private static String sentence = "";

    private Check() {
    }

    /** What of the document the next answers are due by. */
    static void sentence(String words) {
        sentence = words;
    }

    static void due(String call, int got, int want) {
        if (got != want) {
            wrong++;
            System.out.println(sentence + ": " + call + " answered " + got + ", due is " + want);
        }
    }

    static void due(String call, String got, String want) {
        if (!got.equals(want)) {
            wrong++;
            System.out.println(sentence + ": " + call + " is \"" + got + "\", due is \"" + want + "\"");
        }
    }

    /** Tells how the test went, and ends with exit code 1 if an answer was not the one due. */
    static void end(String words) {
        System.out.println(wrong == 0 ? words : wrong + " answers are not as due");
        if (wrong != 0) {
            System.exit(1);
        }
    }

    /** Feeds a text; what is left of each long above its bytes does not count. */
    static int feed(TrackBox x, String text) {
        int fed = 0;
        for (int i = 0; i < text.length(); i += 8) {
            int n = Math.min(8, text.length() - i);
            long bytes = n == 8 ? 0L : -1L << (8 * n);
            for (int k = 0; k < n; k++) {
                bytes |= ((long) text.charAt(i + k)) << (8 * k);
            }
            fed = x.feed(n, bytes);
        }
        return fed;
    }

    static int lay(TrackBox x, String text) {
        feed(x, text);
        return x.row();
    }

    /** A new object with such a ROW. */
    static TrackBox laid(String text) {
        TrackBox x = new TrackBox();
        due("row() of " + text, lay(x, text), text.length());
        return x;
    }

    /** A new object with so many pieces of each kind. */
    static TrackBox boxed(int... many) {
        TrackBox x = new TrackBox();
        for (int kind = 0; kind < many.length; kind++) {
            x.box(kind, many[kind]);
        }
        return x;
    }

    static void sizes(TrackBox x, int... sizes) {
        for (int kind = 0; kind < sizes.length; kind++) {
            x.size(kind, sizes[kind]);
        }
    }

    /** THE ROW as a text of letters. */
    static String told(TrackBox x) {
        StringBuilder text = new StringBuilder();
        int pieces = x.count(0);
        for (int i = 0; i < pieces; i++) {
            int letter = x.piece(i);
            text.append(letter < 0 || letter > 9 ? '?' : LETTERS.charAt(letter));
        }
        return text.toString();
    }

    static void dueRow(String call, TrackBox x, String text) {
        due(call + ": THE ROW", told(x), text);
    }

    static void dueJoint(TrackBox x, int i, int... parts) {
        for (int what = 0; what < parts.length; what++) {
            due("joint(" + i + ", " + what + ")", x.joint(i, what), parts[what]);
        }
    }

    /** Refusals -1 .. -6 as many as told, in their order. */
    static void dueRefusals(String call, TrackBox x, int... many) {
        for (int i = 0; i < many.length; i++) {
            due(call + ": count(" + (11 + i) + ")", x.count(11 + i), many[i]);
        }
    }

    static String repeated(String text, int times) {
        return text.repeat(times);
    }
}
