import java.util.function.Supplier;

/**
 * The bounds of each number of each call: the least and the greatest one are taken, those beyond are refused by the code
 * that the promise (its number stands ahead) tells, and a refused call changes nothing but its count.
 */
public final class BoundsTest {
    private static final long ONE = Due.line(1);
    private static final int ANY_LEAST = Integer.MIN_VALUE;
    private static final int ANY_GREATEST = Integer.MAX_VALUE;

    private interface Told {
        long on(NobodysBard x, int n);
    }

    public static void main(String[] args) {
        lines();
        texts();
        whose();
        answers();
        work();
        worlds();
        rows();
        askedInAnyCase();
        Due.end("BoundsTest");
    }

    /** Of Twins.some(). */
    private static void bounds(String name, int code, int least, int greatest, Told call) {
        bounds(name, Twins::some, code, least, greatest, call);
    }

    private static void bounds(String name, Supplier<NobodysBard> made, int code, int least, int greatest, Told call) {
        for (int n : new int[] {least, greatest}) {
            NobodysBard x = made.get();
            int before = Twins.refusals(x);
            long got = call.on(x, n);
            Due.is(name + " may be " + n + ", but answered " + got + ": refused", Twins.refusals(x) - before, 0);
        }
        // 256 and 2 to the 16th more look like the least one to who takes a byte or a short of them.
        long[] beyond = {least - 1L, greatest + 1L, least - 256L, greatest + 256L, least + 65536L, least - 65536L, ANY_LEAST, ANY_GREATEST};
        for (long n : beyond) {
            boolean isInt = n >= ANY_LEAST && n <= ANY_GREATEST;
            if (!isInt || n >= least && n <= greatest) continue;
            Twins.refused(name + " is " + n, made, x -> call.on(x, (int) n), code);
        }
    }

    /** A number that isn't asked. */
    private static void any(String name, Told call) {
        long want = call.on(Twins.some(), 0);
        for (int n : new int[] {-1, 1, 10, 99, 10000, ANY_LEAST, ANY_GREATEST}) {
            NobodysBard x = Twins.some();
            Due.is(name + " isn't asked, " + n, call.on(x, n), want);
            Due.is(name + " isn't asked, " + n + ", refused", Twins.refusals(x), 0);
        }
    }

    private static void lines() {
        bounds("2 what", -2, 0, 1, (x, n) -> x.open(n, 0, 0, 0));
        bounds("2 TALE", -3, 0, 9, (x, n) -> x.open(0, n, 0, 0));
        bounds("2 GLEN", -3, 0, 15, (x, n) -> x.open(0, 0, n, 0));
        bounds("2 DAY", -3, 0, 9999, (x, n) -> x.open(0, 0, 0, n));
        bounds("2 LAND", -3, 0, 5, (x, n) -> x.open(1, n, 0, 0));
        any("2 GLEN of a BOOK", (x, n) -> x.open(1, 1, n, 0));
        any("2 DAY of a BOOK", (x, n) -> x.open(1, 1, 0, n));
        bounds("3 what", -2, 0, 2, (x, n) -> x.line(n, 0, 0, ONE));
        bounds("3 SONG", -2, 0, 1, (x, n) -> x.line(0, n, 0, ONE));
        bounds("3 BOOK", -2, 0, 2, (x, n) -> x.line(1, n, 0, ONE));
        bounds("3 TALE in THE PRINT", -3, 0, 9, (x, n) -> x.line(2, 0, n, ONE));
        any("3 TALE in a SONG", (x, n) -> x.line(0, 0, n, ONE));
        any("3 TALE in a BOOK", (x, n) -> x.line(1, 0, n, ONE));
        any("3 which of THE PRINT", (x, n) -> x.line(2, n, 0, ONE));
        bounds("4 DAY", -3, 0, 9999, (x, n) -> x.print(n));
        bounds("5 HIGH", -3, 1, 100, (x, n) -> x.bounds(n, 1));
        bounds("5 HIGH not below LOW", -3, 40, 100, (x, n) -> x.bounds(n, 40));
        bounds("5 LOW", -3, 1, 100, (x, n) -> x.bounds(100, n));
        bounds("5 LOW not above HIGH", -3, 1, 60, (x, n) -> x.bounds(60, n));
        bounds("6 what", -2, 0, 4, (x, n) -> x.words(n, 0, 0));
        bounds("6 SONG", -2, 0, 1, (x, n) -> x.words(0, n, 0));
        bounds("6 BOOK", -2, 0, 1, (x, n) -> x.words(1, n, 0));
        Twins.refused("6 a BOOK without LINES", Twins::some, x -> x.words(1, 2, 0), -2);
        bounds("6 LINE of a SONG", -2, 0, 2, (x, n) -> x.words(0, 0, n));
        bounds("6 LINE of a BOOK", -2, 0, 1, (x, n) -> x.words(1, 1, n));
        bounds("6 LINE of THE PRINT", -2, 0, 7, (x, n) -> x.words(2, 0, n));
        bounds("6 the last LINE of a full SONG", Twins::full, -2, 0, 11, (x, n) -> x.words(0, 0, n));
        bounds("6 the last LINE of a full BOOK", Twins::full, -2, 0, 11, (x, n) -> x.words(1, 0, n));
        bounds("6 the last LINE of THE full PRINT", Twins::full, -2, 0, 59, (x, n) -> x.words(2, 0, n));
        bounds("6 old LINE of a VERSION", -2, 0, 2, (x, n) -> x.words(3, n, 0));
        bounds("6 new LINE of a VERSION", -2, 0, 2, (x, n) -> x.words(4, n, 0));
        any("6 which of THE PRINT", (x, n) -> x.words(2, n, 3));
        any("6 line of an old one", (x, n) -> x.words(3, 0, n));
        any("6 line of a new one", (x, n) -> x.words(4, 0, n));
        long[] noWords = {0, 1, 255, 0x00ffffffffffffffL, 0x0001020304050607L};
        for (long words : noWords) {
            String told = Long.toHexString(words);
            Twins.refused("3 no WORDS in " + told, Twins::some, x -> x.line(0, 0, 0, words), -3);
            Twins.refused("3 no WORDS in " + told, Twins::some, x -> x.line(1, 0, 0, words), -3);
            Twins.refused("3 no WORDS in " + told, Twins::some, x -> x.line(2, 0, 0, words), -3);
            Twins.refused("7 no WORDS in " + told, Twins::some, x -> x.like(words, ONE), -3);
            Twins.refused("7 no WORDS in " + told, Twins::some, x -> x.like(ONE, words), -3);
            Twins.refused("11 no WORDS in " + told, Twins::some, x -> x.smoothed(words, 0), -3);
            Twins.refused("24 no WORDS in " + told, Twins::some, x -> x.version(words, ONE, 0, 0), -3);
            Twins.refused("24 no WORDS in " + told, Twins::some, x -> x.version(ONE, words, 0, 0), -3);
            if (words != 0) Twins.refused("26 no WORDS in " + told, Twins::some, x -> x.answer(0, 0, 0, 0, 0, words), -3);
        }
        Twins.refused("7 no WORDS in both", Twins::some, x -> x.like(0, 0), -3);
        Twins.refused("24 no WORDS in both", Twins::some, x -> x.version(0, 0, 0, 0), -3);
    }

    private static NobodysBard blanks() {
        NobodysBard x = new NobodysBard();
        Due.feed(x, " ".repeat(40));
        return x;
    }

    private static NobodysBard emptyTape() {
        NobodysBard x = Twins.some();
        x.text(0, 0);
        return x;
    }

    private static void texts() {
        any("8 a", (x, n) -> x.feed(n, 0, 0, 0, 0));
        any("8 e", (x, n) -> x.feed(0, 0, 0, 0, n));
        bounds("9 what", -2, 0, 1, (x, n) -> x.text(n, 0));
        bounds("9 n of FASHION", BoundsTest::blanks, -3, 0, 40, (x, n) -> x.text(0, n));
        bounds("9 n of LAW", BoundsTest::blanks, -3, 0, 40, (x, n) -> x.text(1, n));
        bounds("9 n where THE TAPE is empty", BoundsTest::emptyTape, -3, 0, 0, (x, n) -> x.text(1, n));
        bounds("11 TALE", -3, 0, 9, (x, n) -> x.smoothed(ONE, n));
        bounds("12 SONG", -2, 0, 1, (x, n) -> x.told(n, 0, 0, 3));
        bounds("12 GLEN", -3, 0, 15, (x, n) -> x.told(0, n, 0, 3));
        bounds("12 DAY", -3, 0, 9999, (x, n) -> x.told(0, 0, n, 3));
    }

    private static void whose() {
        bounds("13 LINE", -2, 0, 7, (x, n) -> x.whose(n, 0));
        bounds("13 LINE of THE full PRINT", Twins::full, -2, 0, 59, (x, n) -> x.whose(n, 1));
        bounds("13 part", -2, 0, 1, (x, n) -> x.whose(0, n));
        bounds("14 SONG", BoundsTest::lateOnes, -2, 0, 2, (x, n) -> x.late(n, 0));
        bounds("14 LINE", -2, 0, 2, (x, n) -> x.late(1, n));
        bounds("15 kind", -2, 0, 5, (x, n) -> x.share(n, 0));
        bounds("15 what", -2, 0, 1, (x, n) -> x.share(5, n));
        bounds("16 what", -2, 0, 1, (x, n) -> x.span(n));
        bounds("17 t", -3, 1, 100, (x, n) -> x.chance(n, 0));
        bounds("17 part", -2, 0, 1, (x, n) -> x.chance(50, n));
        bounds("18 t", -3, 1, 100, (x, n) -> x.odds(n, 0));
        bounds("18 part", -2, 0, 1, (x, n) -> x.odds(50, n));
        bounds("19 BOOK", -2, 0, 2, (x, n) -> x.matches(n, 50));
        bounds("19 BOOK of as many as can be", Twins::full, -2, 0, 11, (x, n) -> x.matches(n, 50));
        bounds("19 t", -3, 1, 100, (x, n) -> x.matches(0, n));
        bounds("20 t", -3, 1, 100, (x, n) -> x.most(n, 2));
        bounds("20 part", -2, 0, 2, (x, n) -> x.most(50, n));
        bounds("21 BOOK", -2, 0, 2, (x, n) -> x.adds(n, 0));
        bounds("21 TALE", -3, 0, 9, (x, n) -> x.adds(0, n));
        bounds("22 BOOK", -2, 0, 2, (x, n) -> x.added(n, 0, 0));
        bounds("22 TALE", -3, 0, 9, (x, n) -> x.added(0, n, 0));
        for (int i : new int[] {-1, 1, 2, 60, ANY_LEAST, ANY_GREATEST}) {
            NobodysBard x = Twins.some();
            Due.is("22 not so many: " + i, x.added(0, 0, i), -1);
            Due.is("22 not refused: " + i, Twins.refusals(x), 0);
        }
        bounds("23 WORD", -2, 1, 255, (x, n) -> x.year(n, 1));
        bounds("23 YEAR", -3, 0, 9999, (x, n) -> x.year(1, n));
        bounds("24 DAY", -3, 0, 9999, (x, n) -> x.version(ONE, ONE, n, 0));
        bounds("24 TALE", -3, 0, 9, (x, n) -> x.version(ONE, ONE, 0, n));
        bounds("25 VERSION", -2, 0, 2, (x, n) -> x.which(n));
        bounds("25 VERSION of as many as can be", Twins::full, -2, 0, 19, (x, n) -> x.which(n));
    }

    /** Three SONGS, all of them LATE. */
    private static NobodysBard lateOnes() {
        NobodysBard x = new NobodysBard();
        for (int song = 0; song < 3; song++) {
            x.open(0, 0, 0, 5001);
            x.line(0, song, 0, ONE);
        }
        return x;
    }

    private static void answers() {
        bounds("26 GLEN", -3, 0, 15, (x, n) -> x.answer(n, 0, 0, 0, 0, 0));
        bounds("26 DAY", -3, 0, 9999, (x, n) -> x.answer(0, n, 0, 0, 0, 0));
        bounds("26 HOPE", -3, 0, 9, (x, n) -> x.answer(0, 0, n, 0, 0, 0));
        bounds("26 first", -3, 0, 2, (x, n) -> x.answer(0, 0, 0, n, 0, 0));
        bounds("26 second", -3, 0, 2, (x, n) -> x.answer(0, 0, 0, 0, n, ONE));
        bounds("27 ANSWER", -2, 0, 4, (x, n) -> x.back(n));
        bounds("27 ANSWER of as many as can be", Twins::full, -2, 0, 59, (x, n) -> x.back(n));
        bounds("28 ANSWER", -2, 0, 4, (x, n) -> x.backOdds(n, 0));
        bounds("28 part", -2, 0, 1, (x, n) -> x.backOdds(0, n));
        bounds("29 question", -2, 0, 1, (x, n) -> x.parted(n, true));
        bounds("29 question", -2, 0, 1, (x, n) -> x.parted(n, false));
        for (int i : new int[] {-2, 1, 2, 60, ANY_LEAST, ANY_GREATEST}) {
            NobodysBard x = Twins.some();
            Due.is("30 not so many: " + i, x.muddled(i), -1);
            Due.is("30 not refused: " + i, Twins.refusals(x), 0);
        }
        bounds("31 GLEN", -2, 0, 15, (x, n) -> x.glen(n, 0));
        bounds("31 what", -2, 0, 3, (x, n) -> x.glen(3, n));
    }

    private static void work() {
        bounds("32 DAY", -3, 0, 9999, (x, n) -> x.paid(n, 1));
        bounds("32 sum", -3, 1, 999, (x, n) -> x.paid(0, n));
        bounds("33 DAY", -3, 0, 9999, (x, n) -> x.pages(n, 1));
        bounds("33 how many", -3, 1, 99, (x, n) -> x.pages(0, n));
        bounds("34 what", -2, 0, 1, (x, n) -> x.more(n, 1));
        bounds("34 d", -3, 1, 999, (x, n) -> x.more(0, n));
        any("34 d of all that was PAID", (x, n) -> x.more(1, n));
        bounds("35 from", -3, 0, 9999, (x, n) -> x.free(n, 9999));
        bounds("35 to", -3, 0, 9999, (x, n) -> x.free(0, n));
        bounds("35 from not above to", -3, 0, 700, (x, n) -> x.free(n, 700));
        bounds("35 to not below from", -3, 700, 9999, (x, n) -> x.free(700, n));
    }

    private static void worlds() {
        bounds("37 weight", -3, 1, 99, (x, n) -> x.world(n));
        bounds("38 WORLD", -2, 0, 2, (x, n) -> x.says(n, 0, 0));
        bounds("38 GLEN", -2, 0, 15, (x, n) -> x.says(0, n, 0));
        bounds("38 what it says", -3, 0, 3, (x, n) -> x.says(0, 0, n));
        bounds("39 set of three", -2, 0, 7, (x, n) -> x.ask(n, 0));
        bounds("39 set of none", NobodysBard::new, -2, 0, 0, (x, n) -> x.ask(n, 1));
        bounds("39 set of eight", Twins::full, -2, 0, 255, (x, n) -> x.ask(n, 1));
        bounds("39 part", -2, 0, 1, (x, n) -> x.ask(7, n));
    }

    private static void rows() {
        bounds("40 ROW", -2, 0, 3, (x, n) -> x.row(n, 0, 1));
        bounds("40 sort", -2, 0, 3, (x, n) -> x.row(0, n, 1));
        bounds("40 n", -3, 0, 60, (x, n) -> x.row(0, 0, n));
        bounds("40 n of a ROW that is MISSING", -3, 0, 60, (x, n) -> x.row(3, 3, n));
        bounds("41 ROW", BoundsTest::fourRows, -2, 0, 3, (x, n) -> x.write(n, 0, 0));
        bounds("41 i", -7, 0, 9, (x, n) -> x.write(0, n, 1));
        bounds("41 i of sixty", BoundsTest::sixty, -7, 0, 59, (x, n) -> x.write(2, n, 1));
        bounds("42 ROW", BoundsTest::fourRows, -2, 0, 3, (x, n) -> x.minister(n));
        for (int k = 0; k < 5; k++) {
            int place = k;
            int greatest = new int[] {15, 9999, 9, 2, 2}[k];
            bounds("42 number " + k, -3, 0, greatest, (x, n) -> ministered(x, place, n));
            bounds("42 number " + k + " of the second ANSWER", -3, 0, greatest, (x, n) -> ministered(x, 5 + place, n));
        }
        bounds("43 LINE", -2, 0, 7, (x, n) -> x.say(n));
        bounds("43 LINE of THE full PRINT", Twins::full, -2, 0, 59, (x, n) -> x.say(n));
        bounds("44 IMAGE", -2, 0, 1, (x, n) -> x.image(n));
        bounds("45 IMAGE", -2, 0, 1, (x, n) -> x.restore(n));
    }

    private static NobodysBard sixty() {
        NobodysBard x = new NobodysBard();
        x.row(2, 2, 60);
        return x;
    }

    private static NobodysBard fourRows() {
        NobodysBard x = new NobodysBard();
        for (int row = 0; row < 4; row++) x.row(row, row, 5);
        return x;
    }

    /** ROW 0 of Twins.some() has two ANSWERS; its numbers are put back, so that the twins' ROWS are alike. */
    private static long ministered(NobodysBard x, int i, int n) {
        int[] ten = {3, 10, 5, 1, 0, 15, 9999, 9, 2, 1};
        x.write(0, i, n);
        long got = x.minister(0);
        x.write(0, i, ten[i]);
        return got;
    }

    /** fault, status, count: NONE for others, and nothing is refused. */
    private static void askedInAnyCase() {
        int[] others = {-1, ANY_LEAST, ANY_LEAST + 99, ANY_LEAST + 100, ANY_LEAST + 199, ANY_LEAST + 200, -100, -200, 256, 65536, ANY_GREATEST};
        for (int what : others) {
            NobodysBard x = Twins.some();
            Due.text(x, 0, "1 become");
            Due.is("10 NONE for " + what, x.fault(what), -1);
            Due.is("46 NONE for " + what, x.status(what), -1);
            Due.is("47 NONE for " + what, x.count(what), -1);
            Due.is("10, 46, 47 not refused: " + what, Twins.refusals(x), 1);
        }
        NobodysBard x = Twins.full();
        for (int what : new int[] {2, 3, 255}) Due.is("10 NONE for " + what, x.fault(what), -1);
        for (int what : new int[] {0, 8, 9, 10}) Due.is("46 NONE for " + what, x.status(what), -1);
        for (int what : new int[] {13, 14, 98, 99, 140, 141, 199, 212, 213, 299, 300}) Due.is("47 NONE for " + what, x.count(what), -1);
        for (int song = 0; song < 40; song++) Due.is("47 SONG " + song, x.count(100 + song), song == 0 ? 12 : song == 1 ? 3 : 0);
        for (int book = 0; book < 12; book++) Due.is("47 BOOK " + book, x.count(200 + book), book == 0 ? 12 : book == 1 ? 2 : 0);
        Due.is("10, 46, 47 not refused", Twins.refusals(x), 0);
    }
}
