/** Promises 40 to 47: ROWS, the minister's ANSWERS, what may be said, IMAGES, status, count. */
public final class RowsTest {
    public static void main(String[] args) {
        row();
        write();
        minister();
        say();
        images();
        whatAnImageLeaves();
        status();
        count();
        Due.end("RowsTest");
    }

    private static void row() {
        NobodysBard x = new NobodysBard();
        Due.is("40 row -1", x.row(-1, 0, 99), -2);
        Due.is("40 row 4", x.row(4, 0, 1), -2);
        Due.is("40 sort -1", x.row(0, -1, 1), -2);
        Due.is("40 sort 4", x.row(0, 4, 99), -2);
        Due.is("40 n -1", x.row(0, 0, -1), -3);
        Due.is("40 n 61", x.row(0, 0, 61), -3);
        Due.is("40 missing still", x.write(0, 0, 1), -6);
        Due.is("40 none", x.row(0, 0, 0), 0);
        Due.is("40 not missing", x.write(0, 0, 1), -7);
        Due.is("40 others missing", x.minister(1), -6);
        Due.is("40 sixty", x.row(3, 3, 60), 0);
        Due.is("40 the last", x.write(3, 59, 7), 7);
        Due.is("40 n 61, the row stays", x.row(3, 0, 61), -3);
        Due.is("40 of its sort", x.write(3, 0, 1L << 40), 1L << 40);
        Due.is("40 another one in its place", x.row(3, 0, 5), 0);
        Due.is("40 of another sort", x.write(3, 0, 1L << 40), 0);
        Due.is("40 shorter", x.write(3, 5, 1), -7);
        x.row(3, 1, 5);
        x.write(3, 0, 3);
        x.row(3, 1, 5);
        x.minister(3);
        Due.is("40 all 0", x.glen(0, 0), 1);
    }

    private static void write() {
        NobodysBard x = new NobodysBard();
        Due.is("41 row", x.write(-1, 0, 0), -2);
        Due.is("41 row", x.write(4, 0, 0), -2);
        Due.is("41 missing", x.write(1, -1, 0), -6);
        for (int sort = 0; sort < 4; sort++) x.row(sort, sort, 2);
        long v = 0x123456789abcdef0L;
        Due.is("41 8 bits", x.write(0, 0, v), (byte) 0xf0);
        Due.is("41 16 bits", x.write(1, 0, v), (short) 0xdef0);
        Due.is("41 32 bits", x.write(2, 0, v), 0x9abcdef0);
        Due.is("41 64 bits", x.write(3, 0, v), v);
        Due.is("41 8 bits", x.write(0, 1, 127), 127);
        Due.is("41 16 bits", x.write(1, 1, 32767), 32767);
        Due.is("41 32 bits", x.write(2, 1, Integer.MAX_VALUE), Integer.MAX_VALUE);
        Due.is("41 300", x.write(0, 1, 300), 44);
        Due.is("41 65536", x.write(1, 1, 65536 + 5), 5);
        Due.is("41 2 to the 32nd", x.write(2, 1, (1L << 32) + 6), 6);
        Due.is("41 -1", x.write(0, 1, -1), -1);
        Due.is("41 no such number", x.write(0, 2, 1), -7);
        Due.is("41 no such number", x.write(0, -1, 1), -7);
        Due.is("41 status(7)", x.status(7), 2);
        Due.is("41 status(6)", x.status(6), 1);
    }

    private static void fill(NobodysBard x, int row, long... numbers) {
        for (int i = 0; i < numbers.length; i++) x.write(row, i, numbers[i]);
    }

    private static void minister() {
        NobodysBard x = new NobodysBard();
        Due.is("42 row", x.minister(-1), -2);
        Due.is("42 row", x.minister(4), -2);
        Due.is("42 missing", x.minister(0), -6);
        x.row(0, 3, 0);
        Due.is("42 none", x.minister(0), 0);
        for (int n = 1; n < 5; n++) {
            x.row(0, 3, n);
            x.write(0, 0, -1);
            Due.is("42 ends within one, before a number", x.minister(0), -7);
        }
        x.row(0, 3, 10);
        fill(x, 0, 15, 9999, 9, 2, 2, 3, 5001, 4, 1, 0);
        Due.is("42 two", x.minister(0), 2);
        Due.is("42 count", x.count(3), 2);
        Due.is("42 glen 15", x.glen(15, 0), 1);
        Due.is("42 glen 3", x.glen(3, 1), 1);
        Due.is("42 first question", x.parted(0, true), 6);
        Due.is("42 second question", x.parted(1, false), 6);
        x.line(2, 0, 0, Due.line(1));
        Due.is("42 no line", x.backOdds(1, 1), 1);
        Due.is("42 no line", x.back(1), 0);
        long[] good = {15, 9999, 9, 2, 2};
        long[] beyond = {16, 10000, 10, 3, 3};
        for (int i = 0; i < 5; i++) {
            for (long wrong : new long[] {beyond[i], -1, 1L << 32, (1L << 32) + 1, Long.MIN_VALUE}) {
                fill(x, 0, good);
                fill(x, 0, 0, 0, 0, 0, 0, good[0], good[1], good[2], good[3], good[4]);
                x.write(0, 5 + i, wrong);
                Due.is("42 number " + i + " is " + wrong, x.minister(0), -3);
            }
        }
        Due.is("42 none of them came", x.count(3), 2);
        x.row(1, 0, 60);
        for (int i = 0; i < 4; i++) Due.is("42 twelve", x.minister(1), 12);
        Due.is("42 too many", x.minister(1), -4);
        x.write(1, 59, 3);
        Due.is("42 a number before too many", x.minister(1), -3);
        x.row(1, 1, 50);
        Due.is("42 ten", x.minister(1), 10);
        Due.is("42 full", x.count(3), 60);
        x.row(1, 1, 5);
        Due.is("42 too many", x.minister(1), -4);
        x.row(1, 1, 0);
        Due.is("42 none more", x.minister(1), 0);
    }

    private static void say() {
        NobodysBard x = new NobodysBard();
        Due.is("43 none", x.say(0), -2);
        x.line(2, 0, 1, Due.line(1, 2));
        Due.is("43 none", x.say(1), -2);
        Due.is("43 none", x.say(-1), -2);
        Due.is("43 nobody came", x.say(0), 0);
        x.open(0, 1, 1, 9999);
        x.line(0, 0, 0, Due.line(1, 2));
        Due.is("43 a late song alone", x.say(0), 0);
        x.open(1, 0, 0, 0);
        Due.is("43 came back", x.say(0), 5);
        x.line(2, 0, 1, Due.line(3, 4));
        Due.is("43 his", x.say(1), 6);
        x.line(1, 0, 0, Due.line(1, 9));
        Due.is("43 one can't tell", x.say(0), 4);
        x.line(1, 0, 0, Due.line(1, 2));
        Due.is("43 another one's", x.say(0), 3);
        x.open(0, 1, 1, 0);
        x.line(0, 1, 0, Due.line(5));
        Due.text(x, 0, "5 become 1 2;");
        Due.is("43 it was theirs", x.say(0), 2);
        x.open(0, 2, 1, 0);
        x.line(0, 2, 0, Due.line(1, 2));
        Due.is("43 moved: it is theirs", x.say(0), 1);
        x.line(0, 1, 0, Due.line(1, 2));
        Due.is("43 had: it is theirs", x.say(0), 1);
        NobodysBard y = new NobodysBard();
        y.line(2, 0, 1, Due.line(1, 2));
        y.open(0, 1, 1, 5000);
        Due.is("43 an early song without lines came", y.say(0), 6);
    }

    private static void fillAll(NobodysBard x) {
        x.open(0, 1, 1, 100);
        x.line(0, 0, 0, Due.line(1, 1, 255, 254));
        x.open(1, 2, 0, 0);
        x.line(1, 0, 0, Due.line(2, 2));
        x.line(2, 0, 3, Due.line(3, 3));
        x.print(4000);
        x.bounds(60, 40);
        Due.text(x, 0, "9 become 8;");
        Due.text(x, 1, "lose 0;say 4 for 1;say 3 for 255;say 2 for 254;");
        x.year(7, 77);
        x.version(Due.line(5), Due.line(6), 10, 2);
        x.answer(4, 4500, 3, 1, 0, Due.line(3, 3));
        x.paid(10, 11);
        x.pages(12, 13);
        x.free(1, 12);
        x.world(5);
        x.world(6);
        x.says(1, 2, 3);
    }

    private static void changeAll(NobodysBard x) {
        fillAll(x);
        x.print(1);
        x.bounds(100, 100);
        x.line(0, 0, 0, Due.line(7));
        x.line(1, 0, 0, Due.line(7));
        Due.text(x, 0, "");
        Due.text(x, 1, "");
        x.year(7, 1);
        x.says(0, 2, 3);
    }

    /** Another filling, with as many of all: an IMAGE that only counts is not enough. */
    private static void fillOtherwise(NobodysBard x) {
        x.restore(1);
        x.open(0, 9, 9, 9999);
        x.line(0, 0, 0, Due.line(9, 9, 9));
        x.open(1, 0, 0, 0);
        x.line(1, 0, 0, Due.line(8, 8));
        x.line(2, 0, 9, Due.line(3, 4));
        x.print(9000);
        x.bounds(7, 6);
        Due.text(x, 0, "9 become 7 if tale 3 and not long 3;");
        Due.text(x, 1, "smooth 99;say 5 for 255;");
        x.year(7, 78);
        x.year(255, 79);
        x.version(Due.line(4), Due.line(4), 9999, 3);
        x.answer(5, 1, 9, 0, 2, 0);
        x.paid(9999, 999);
        x.pages(1, 99);
        x.free(0, 0);
        x.world(99);
        x.world(98);
        x.says(0, 0, 1);
        x.says(1, 15, 1);
    }

    private static void isAsFilled(String when, NobodysBard x) {
        int[] want = {1, 1, 1, 1, 1, 1, 1, 1, 2, 1, 4};
        for (int what = 0; what < want.length; what++) Due.is(when + " count(" + what + ")", x.count(what), want[what]);
        Due.is(when + " day", x.count(12), 4000);
        Due.is(when + " lines", x.count(100), 1);
        Due.is(when + " lines", x.count(200), 1);
        Due.is(when + " words", x.words(0, 0, 0), Due.line(1, 1, 255, 254));
        Due.is(when + " words", x.words(1, 0, 0), Due.line(2, 2));
        Due.is(when + " words", x.words(2, 0, 0), Due.line(3, 3));
        Due.is(when + " words", x.words(4, 0, 0), Due.line(6));
        Due.is(when + " fashion", x.smoothed(Due.line(9), 0), Due.line(8));
        Due.is(when + " back", x.back(0), 1);
        Due.is(when + " paid", x.more(1, 1), 11);
        Due.is(when + " pages", x.more(0, 2), 13);
        Due.is(when + " rate", x.rate(), 2);
        Due.is(when + " ask", x.ask(3, 0), 11);
        Due.is(when + " first", x.ask(3, 1), 2);
        Due.is(when + " what a glen says", x.says(1, 15, 0), 0);
        Due.is(when + " what a glen says", x.says(0, 0, 0), 0);
        Due.is(when + " year", x.year(7, 77), 77);
        Due.is(when + " year", x.year(255, 0), 0);
        Due.is(when + " which", x.which(0), 2);
        Due.is(when + " glen", x.glen(4, 1), 1);
        Due.is(when + " second question", x.glen(4, 2), 0);
        Due.is(when + " hope", x.backOdds(0, 0), 1);
        x.print(4501);
        Due.is(when + " hope", x.parted(1, false), 7);
        x.print(4000);
        Due.is(when + " the song is early", x.late(0, 0), -5);
        Due.is(when + " its tale", x.whose(0, 0), 5);
        Due.is(when + " the book's land", x.chance(1, 1), 1);
        Due.is(when + " law", x.told(0, 0, 0, 5), 1);
        Due.is(when + " law", x.words(0, 1, 0), Due.line(4, 4, 3, 2));
        x.line(0, 0, 0, Due.line(4, 4, 4));
        x.line(2, 0, 0, Due.line(4, 4, 4, 5, 6));
        Due.is(when + " high", x.whose(1, 0), 1);
        x.bounds(61, 40);
        Due.is(when + " high", x.whose(1, 0), 4);
    }

    private static void images() {
        NobodysBard x = new NobodysBard();
        Due.is("44 none such", x.image(-1), -2);
        Due.is("44 none such", x.image(2), -2);
        Due.is("45 none such", x.restore(-1), -2);
        Due.is("45 none such", x.restore(2), -2);
        Due.is("45 none made", x.restore(0), -5);
        Due.is("45 none made", x.restore(1), -5);
        Due.is("44 of nothing", x.image(1), 0);
        Due.is("45 the other one isn't made", x.restore(0), -5);
        fillAll(x);
        Due.is("44 made", x.image(0), 0);
        changeAll(x);
        Due.is("45 restored", x.restore(0), 0);
        isAsFilled("45", x);
        changeAll(x);
        Due.is("45 restored again", x.restore(0), 0);
        isAsFilled("45 again", x);
        fillOtherwise(x);
        Due.is("45 restored from another filling", x.restore(0), 0);
        isAsFilled("45 from another", x);
        Due.is("45 the first one", x.restore(1), 0);
        for (int what = 0; what <= 11; what++) Due.is("45 as at first " + what, x.count(what), 0);
        Due.is("45 day", x.count(12), 5000);
        Due.is("45 year", x.year(7, 0), 0);
        Due.is("45 the other one is still there", x.restore(0), 0);
        isAsFilled("45 once more", x);
        x.print(3);
        Due.is("44 in place of another", x.image(1), 0);
        x.restore(0);
        Due.is("45 first", x.count(12), 4000);
        x.restore(1);
        Due.is("45 second", x.count(12), 3);
    }

    private static void whatAnImageLeaves() {
        NobodysBard x = new NobodysBard();
        Due.feed(x, "1 become 2;");
        x.row(0, 2, 5);
        x.write(0, 0, 3);
        x.open(9, 0, 0, 0);
        x.image(0);
        Due.is("10 fault", x.text(0, 10), -12);
        Due.feed(x, "lose 1;lose 2;lose 3; ");
        x.write(0, 0, 4);
        x.row(1, 0, 1);
        x.open(9, 0, 0, 0);
        x.restore(0);
        Due.is("45 the tape stays", x.count(11), 40);
        Due.is("45 the fault stays", x.fault(0), 2);
        Due.is("45 its place stays", x.fault(1), 10);
        Due.is("45 what was refused stays", x.status(2), 2);
        Due.is("45 what was refused stays", x.status(1), 1);
        Due.is("45 rows stay", x.write(1, 0, 1), 1);
        x.minister(0);
        Due.is("45 rows stay", x.glen(4, 0), 1);
    }

    private static void status() {
        NobodysBard x = new NobodysBard();
        x.open(7, 0, 0, 0);
        x.words(9, 0, 0);
        x.like(0, 0);
        x.smoothed(0, 0);
        x.odds(0, 0);
        for (int i = 0; i < 21; i++) x.feed(0, 0, 0, 0, 0);
        x.rate();
        x.span(0);
        x.minister(0);
        x.write(0, 0, 0);
        x.row(0, 0, 1);
        x.write(0, 1, 0);
        x.minister(0);
        x.write(0, 2, 0);
        x.text(0, 1);
        x.text(1, 0);
        int[] want = {1, 2, 3, 1, 2, 2, 3};
        for (int what = 1; what <= 7; what++) Due.is("46 status(" + what + ")", x.status(what), want[what - 1]);
        Due.is("46 others", x.status(0), -1);
        Due.is("46 others", x.status(8), -1);
        Due.is("46 others", x.status(-2), -1);
        Due.is("46 asking isn't refused", x.status(2), 2);
    }

    private static void count() {
        NobodysBard x = new NobodysBard();
        for (int what : new int[] {-1, 13, 14, 99, 100, 139, 140, 199, 200, 212, Integer.MAX_VALUE, Integer.MIN_VALUE}) {
            Due.is("47 others: " + what, x.count(what), -1);
        }
        fillAll(x);
        fillAll(x);
        fillAll(x);
        x.line(0, 1, 0, Due.line(1));
        x.line(1, 2, 0, Due.line(1));
        int[] want = {3, 3, 3, 3, 3, 3, 3, 3, 6, 1, 4, 0, 4000};
        for (int what = 0; what < want.length; what++) Due.is("47 count(" + what + ")", x.count(what), want[what]);
        int[] songs = {3, 1, 0, -1};
        int[] books = {3, 0, 1, -1};
        for (int i = 0; i < 4; i++) {
            Due.is("47 song " + i, x.count(100 + i), songs[i]);
            Due.is("47 book " + i, x.count(200 + i), books[i]);
        }
        Due.feed(x, "abc");
        Due.is("47 the tape", x.count(11), 20);
        Due.is("47 nothing refused", x.status(2), 0);
    }
}
