/** What the tests share: the count of wrong answers, LINES by their WORDS, and texts fed byte by byte. */
final class Due {
    private static int wrong = 0;
    private static int asked = 0;

    private Due() {
    }

    static void is(String call, long got, long want) {
        asked++;
        if (got == want) return;
        wrong++;
        if (wrong <= 40) System.out.println(call + " answered " + got + ", due is " + want);
    }

    static void end(String name) {
        System.out.println(name + ": " + asked + " answers looked at, " + wrong + " not as due");
        if (wrong != 0 || asked == 0) System.exit(1);
    }

    /** A LINE of these WORDS, as a long. */
    static long line(int... words) {
        long line = 0;
        for (int i = 0; i < 8; i++) line = line << 8 | (i < words.length ? words[i] & 255 : 0);
        return line;
    }

    /** Feeds the text, with blanks behind it up to twenty bytes. */
    static void feed(NobodysBard x, String text) {
        for (int at = 0; at < text.length(); at += 20) {
            x.feed(four(text, at), four(text, at + 4), four(text, at + 8), four(text, at + 12), four(text, at + 16));
        }
    }

    private static int four(String text, int at) {
        int bytes = 0;
        for (int i = at; i < at + 4; i++) bytes = bytes << 8 | (i < text.length() ? text.charAt(i) & 255 : 32);
        return bytes;
    }

    /** Feeds a text and has it read. */
    static int text(NobodysBard x, int what, String text) {
        feed(x, text);
        return x.text(what, text.length());
    }
}
