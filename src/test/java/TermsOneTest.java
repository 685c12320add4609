/** "Terms", ==== 1: each sentence that names a bound of WORDS, LINES, LIKE, SONGS, BOOKS, THE PRINT, HIGH and LOW. */
public final class TermsOneTest {
    public static void main(String[] args) {
        wordsAreOneTo255();
        aLineIsOneToEight();
        upToTheFirstZero();
        likeOfAllLengths();
        likeOfRows();
        numberedAsTheyCome();
        thePrintAtFirst();
        earlyOnItsDay();
        earlyInEachPromise();
        highAndLowAtFirst();
        Due.end("TermsOneTest");
    }

    /** "WORDS are 1 to 255": bytes from 128 on are no numbers below 0. */
    private static void wordsAreOneTo255() {
        NobodysBard x = new NobodysBard();
        for (int word = 1; word <= 255; word++) {
            Due.is("T1 WORD " + word, x.like(Due.line(word), Due.line(word)), 100);
        }
        for (int word = 1; word <= 127; word++) {
            Due.is("T1 WORD " + word + " and its like below 0", x.like(Due.line(word), Due.line(256 - word)), 0);
        }
        x = new NobodysBard();
        x.line(2, 0, 0, Due.line(255, 128, 127, 1));
        Due.is("T1 as they were told", x.words(2, 0, 0), Due.line(255, 128, 127, 1));
        Due.is("T1 the highest byte first", x.words(2, 0, 0), 0xff807f0100000000L);
    }

    /** "a LINE is 1 to 8 of them". */
    private static void aLineIsOneToEight() {
        NobodysBard x = new NobodysBard();
        x.open(0, 0, 0, 0);
        int[] words = {255, 254, 253, 252, 251, 250, 249, 248};
        for (int length = 1; length <= 8; length++) {
            long line = Due.line(java.util.Arrays.copyOf(words, length));
            Due.is("T1 a LINE of " + length, x.line(0, 0, 0, line), length - 1);
            Due.is("T1 a LINE of " + length + " as it was", x.words(0, 0, length - 1), line);
            Due.is("T1 a LINE of " + length + " has them all", x.like(line, Due.line(words)), 100 * length / 8);
        }
        Due.is("T1 a LINE of none", x.line(0, 0, 0, 0), -3);
    }

    /** "up to the first that is 0 (what is behind it doesn't count)", wherever a LINE is told. */
    private static void upToTheFirstZero() {
        for (int length = 1; length < 8; length++) {
            long plain = 0;
            long more = 0;
            for (int i = 0; i < 8; i++) {
                plain = plain << 8 | (i < length ? 7 + i : 0);
                more = more << 8 | (i < length ? 7 + i : i == length ? 0 : 200 + i);
            }
            NobodysBard x = new NobodysBard();
            x.open(0, 0, 0, 0);
            x.open(1, 0, 0, 0);
            x.line(0, 0, 0, more);
            x.line(1, 0, 0, more);
            x.line(2, 0, 0, more);
            x.version(more, more, 0, 0);
            x.answer(0, 9999, 0, 1, 1, more);
            x.told(0, 0, 9999, 0);
            String name = "T1 behind " + length;
            for (int what = 0; what < 5; what++) Due.is(name + ", words(" + what + ")", x.words(what, 0, 0), plain);
            Due.is(name + ", told", x.words(0, 1, 0), plain);
            Due.is(name + ", smoothed", x.smoothed(more, 0), plain);
            Due.is(name + ", like", x.like(more, plain), 100);
            Due.is(name + ", like", x.like(plain, more), 100);
            Due.is(name + ", whose", x.whose(0, 0), 0);
            Due.is(name + ", answer", x.backOdds(0, 0) * 100 + x.backOdds(0, 1), 110);
            x.year(200 + 7, 9999);
            Due.is(name + ", the old one has no WORD behind", x.which(0), 0);
        }
    }

    /** "100 times the longest row ..., by the length of the longer LINE, cut": of all lengths, and in both orders. */
    private static void likeOfAllLengths() {
        for (int m = 1; m <= 8; m++) {
            NobodysBard x = new NobodysBard();
            for (int n = 1; n <= 8; n++) {
                for (int k = 0; k <= Math.min(m, n); k++) {
                    long a = 0;
                    long b = 0;
                    for (int i = 0; i < 8; i++) {
                        // the row is at the end of one and at the beginning of the other
                        a = a << 8 | (i >= m ? 0 : i < m - k ? 100 + i : 1 + i - (m - k));
                        b = b << 8 | (i >= n ? 0 : i < k ? 1 + i : 200 + i);
                    }
                    Due.is("T1 like of " + m + " and " + n + " by " + k, x.like(a, b), 100 * k / Math.max(m, n));
                    Due.is("T1 like of " + n + " and " + m + " by " + k, x.like(b, a), 100 * k / Math.max(m, n));
                }
            }
        }
    }

    /** "the longest row of WORDS that is in both in that order (side by side or not)". */
    private static void likeOfRows() {
        NobodysBard x = new NobodysBard();
        Due.is("T1 backwards", x.like(Due.line(1, 2, 3, 4, 5, 6, 7, 8), Due.line(8, 7, 6, 5, 4, 3, 2, 1)), 12);
        Due.is("T1 not side by side", x.like(Due.line(1, 9, 2, 9, 3, 9, 4, 9), Due.line(1, 2, 3, 4)), 50);
        Due.is("T1 not side by side in both", x.like(Due.line(1, 9, 2, 9, 3, 9, 4, 9), Due.line(8, 1, 8, 2, 8, 3, 8, 4)), 50);
        Due.is("T1 the longest of two rows", x.like(Due.line(5, 1, 2, 3), Due.line(1, 2, 3, 5)), 75);
        Due.is("T1 a WORD that is there twice counts twice where it is in both twice", x.like(Due.line(1, 1, 2), Due.line(1, 1, 3)), 66);
        Due.is("T1 a WORD that is there twice counts once where it is in one once", x.like(Due.line(1, 1, 2), Due.line(1, 3, 3)), 33);
        Due.is("T1 eight of one WORD", x.like(Due.line(4, 4, 4, 4, 4, 4, 4, 4), Due.line(4)), 12);
        Due.is("T1 by turns", x.like(Due.line(1, 2, 1, 2, 1, 2, 1, 2), Due.line(2, 1, 2, 1, 2, 1, 2, 1)), 87);
    }

    /** "numbered as they come", from 0 on, SONGS and BOOKS each by themselves. */
    private static void numberedAsTheyCome() {
        NobodysBard x = new NobodysBard();
        for (int i = 0; i < 12; i++) {
            Due.is("T1 SONG " + i, x.open(0, i % 10, i, i), i);
            Due.is("T1 BOOK " + i, x.open(1, i % 6, 0, 0), i);
            for (int k = 0; k < 12; k++) {
                Due.is("T1 SONG " + i + " LINE " + k, x.line(0, i, 0, Due.line(1 + i, 1 + k)), k);
            }
        }
        Due.is("T1 SONG 11 LINE 11", x.words(0, 11, 11), Due.line(12, 12));
        Due.is("T1 SONG 10 LINE 11", x.words(0, 10, 11), Due.line(11, 12));
        Due.is("T1 SONG 11 LINE 0", x.words(0, 11, 0), Due.line(12, 1));
    }

    /** "THE PRINT: a DAY (5000 at first)". */
    private static void thePrintAtFirst() {
        NobodysBard x = new NobodysBard();
        Due.is("T1 its DAY", x.count(12), 5000);
        x.open(0, 0, 0, 5000);
        x.open(0, 0, 0, 5001);
        x.line(0, 0, 0, Due.line(1));
        x.line(0, 1, 0, Due.line(2));
        Due.is("T1 5000 is EARLY", x.late(0, 0), -5);
        Due.is("T1 5001 is LATE", x.late(1, 0), 0);
        Due.is("T1 what it was", x.print(5000), 5000);
    }

    /** "EARLY is a SONG whose DAY isn't above THE PRINT's": at both ends of the DAYS. */
    private static void earlyOnItsDay() {
        for (int day : new int[] {0, 1, 4999, 5000, 9998, 9999}) {
            NobodysBard x = new NobodysBard();
            x.open(0, 0, 0, day);
            x.line(0, 0, 0, Due.line(1, 2));
            x.line(2, 0, 0, Due.line(1, 2));
            x.print(day);
            Due.is("T1 EARLY on " + day, x.whose(0, 0), 0);
            Due.is("T1 EARLY on " + day, x.late(0, 0), -5);
            if (day < 9999) {
                x.print(day + 1);
                Due.is("T1 EARLY the day ahead: " + day, x.whose(0, 0), 0);
            }
            if (day > 0) {
                x.print(day - 1);
                Due.is("T1 LATE the day behind: " + day, x.whose(0, 0), 5);
                Due.is("T1 LATE the day behind: " + day, x.late(0, 0), 2);
            }
        }
    }

    /** EARLY and LATE in each promise that asks for them: a SONG of THE PRINT's DAY, then of the DAY behind it. */
    private static void earlyInEachPromise() {
        NobodysBard x = new NobodysBard();
        x.open(0, 1, 0, 700);
        x.line(0, 0, 0, Due.line(1, 2));
        x.line(0, 0, 0, Due.line(3, 4));
        x.line(2, 0, 2, Due.line(1, 2));
        x.open(1, 1, 0, 0);
        x.line(1, 0, 0, Due.line(1, 2));
        x.answer(0, 9999, 0, 1, 1, Due.line(1, 2));
        x.answer(0, 9999, 0, 1, 1, Due.line(3, 4));
        int[][] want = {{1, 1, 1, 0, 1, 10, 1, 0, 2}, {3, 3, 0, 1, 1, 0, 0, 1, 0}};
        for (int late = 0; late < 2; late++) {
            x.print(700 - late);
            String name = late == 0 ? "EARLY" : "LATE";
            Due.is("13 " + name, x.whose(0, 0), want[late][0]);
            Due.is("43 " + name, x.say(0), want[late][1]);
            Due.is("30 " + name, x.muddled(-1), want[late][2]);
            Due.is("27 " + name, x.back(0), want[late][3]);
            Due.is("28 " + name, x.backOdds(0, 0), want[late][4]);
            Due.is("28 " + name, x.backOdds(0, 1), want[late][5]);
            Due.is("18 " + name, x.odds(100, 0), want[late][6]);
            Due.is("21 " + name, x.adds(0, 1), want[late][7]);
            Due.is("18 " + name, x.odds(100, 1), want[late][8]);
        }
        NobodysBard y = new NobodysBard();
        y.line(2, 0, 0, Due.line(9));
        y.open(0, 0, 0, 700);
        y.print(700);
        Due.is("43 an EARLY one came", y.say(0), 6);
        y.print(699);
        Due.is("43 a LATE one came too late", y.say(0), 0);
    }

    /** "HIGH and LOW: 80 and 50 at first": 4 of 5 is 80, 3 of 4 is 75; 4 of 8 is 50, 3 of 7 is 42. */
    private static void highAndLowAtFirst() {
        int[][] counts = {{4, 5, 0}, {7, 8, 0}, {6, 7, 0}, {5, 6, 0}, {3, 4, 4}, {5, 7, 4}, {4, 8, 4}, {1, 2, 4}, {3, 6, 4}, {3, 7, 5}, {2, 5, 5}, {3, 8, 5}};
        for (int[] c : counts) {
            NobodysBard x = new NobodysBard();
            x.open(0, 0, 0, 0);
            long song = 0;
            long printed = 0;
            for (int i = 0; i < 8; i++) {
                song = song << 8 | (i < c[1] ? 1 + i : 0);
                printed = printed << 8 | (i >= c[1] ? 0 : i < c[0] ? 1 + i : 100 + i);
            }
            x.line(0, 0, 0, song);
            x.line(2, 0, 0, printed);
            Due.is("T1 at first, " + c[0] + " of " + c[1], x.whose(0, 0), c[2]);
            int alike = x.like(song, printed);
            x.bounds(alike, alike);
            Due.is("T1 by HIGH, " + c[0] + " of " + c[1], x.whose(0, 0), 0);
            x.bounds(alike + 1, alike);
            Due.is("T1 by LOW, " + c[0] + " of " + c[1], x.whose(0, 0), 4);
            x.bounds(alike + 1, alike + 1);
            Due.is("T1 below LOW, " + c[0] + " of " + c[1], x.whose(0, 0), 5);
        }
    }
}
