/** Promises 13 to 25: WHOSE, late, SHARE, SPAN, CHANCE, ODDS, MATCHES, MOST, ADDS, YEARS, VERSIONS, WHICH. */
public final class WhoseTest {
    public static void main(String[] args) {
        whose();
        from();
        smoothedSongs();
        late();
        shareAndSpan();
        chance();
        odds();
        matchesAndMost();
        adds();
        year();
        version();
        which();
        Due.end("WhoseTest");
    }

    private static int song(NobodysBard x, int tale, int day, long... lines) {
        int song = x.open(0, tale, 1, day);
        for (long line : lines) x.line(0, song, 0, line);
        return song;
    }

    private static int book(NobodysBard x, int land, long... lines) {
        int book = x.open(1, land, 0, 0);
        for (long line : lines) x.line(1, book, 0, line);
        return book;
    }

    private static void whose() {
        NobodysBard x = new NobodysBard();
        Due.is("13 no line", x.whose(0, 0), -2);
        x.line(2, 0, 1, Due.line(1, 2, 3, 4));
        Due.is("13 part 2", x.whose(0, 2), -2);
        Due.is("13 part -1", x.whose(0, -1), -2);
        Due.is("13 line -1", x.whose(-1, 0), -2);
        Due.is("13 line 1", x.whose(1, 0), -2);
        Due.is("13 own", x.whose(0, 0), 5);
        Due.is("13 own from", x.whose(0, 1), -1);
        song(x, 1, 5001, Due.line(1, 2, 3, 4));
        Due.is("13 late ones don't count", x.whose(0, 0), 5);
        book(x, 0, Due.line(1, 2, 8, 9));
        Due.is("13 may be by a book", x.whose(0, 0), 4);
        Due.is("13 may be from", x.whose(0, 1), -1);
        book(x, 3, Due.line(1, 2, 3, 4));
        Due.is("13 borrowed", x.whose(0, 0), 3);
        Due.is("13 borrowed from", x.whose(0, 1), 100);
        song(x, 2, 100, Due.line(1, 2, 7, 7));
        Due.is("13 a little of a song", x.whose(0, 0), 3);
        Due.text(x, 0, "7 7 become 3 4;");
        Due.is("13 smoothed", x.whose(0, 0), 2);
        Due.is("13 smoothed from", x.whose(0, 1), 100);
        song(x, 2, 100, Due.line(9), Due.line(1, 2, 3, 4));
        Due.is("13 moved", x.whose(0, 0), 1);
        Due.is("13 moved from", x.whose(0, 1), 201);
        song(x, 1, 5000, Due.line(9), Due.line(8), Due.line(1, 2, 3, 4));
        Due.is("13 had", x.whose(0, 0), 0);
        Due.is("13 had from", x.whose(0, 1), 302);

        NobodysBard y = new NobodysBard();
        y.line(2, 0, 1, Due.line(1, 2, 3, 4));
        song(y, 1, 0, Due.line(1, 2, 3, 9));
        Due.is("13 75 may be", y.whose(0, 0), 4);
        NobodysBard z = new NobodysBard();
        z.line(2, 0, 1, Due.line(1, 2, 3, 4));
        song(z, 1, 0, Due.line(7, 7, 7, 9));
        Due.text(z, 0, "7 7 become 1 2;");
        Due.is("13 may be by a smoothed one", z.whose(0, 0), 4);
    }

    private static void from() {
        NobodysBard x = new NobodysBard();
        long five = Due.line(1, 2, 3, 4, 5);
        x.line(2, 0, 1, five);
        song(x, 1, 0, Due.line(9), Due.line(1, 2, 3, 4, 6), Due.line(1, 2, 3, 4, 7));
        Due.is("13 the first line of like ones", x.whose(0, 1), 1);
        song(x, 1, 0, Due.line(1, 2, 3, 4, 8));
        Due.is("13 the first song of like ones", x.whose(0, 1), 1);
        song(x, 1, 0, Due.line(1, 2, 3, 4), five, five);
        Due.is("13 the one that is like it most", x.whose(0, 1), 201);
        song(x, 2, 0, five);
        Due.is("13 not of another tale", x.whose(0, 1), 201);

        NobodysBard y = new NobodysBard();
        y.line(2, 0, 1, five);
        for (int i = 0; i < 12; i++) book(y, i % 6, i < 11 ? Due.line(1, 2, 3, 4, 20 + i) : five);
        for (int i = 0; i < 11; i++) y.line(1, 11, 0, five);
        Due.is("13 the last book's first", y.whose(0, 1), 1100);
        y.bounds(100, 1);
        Due.is("13 still borrowed", y.whose(0, 0), 3);
    }

    /** SMOOTHED LINES follow FASHION, new LINES, SONGS TOLD ON, THE PRINT's DAY and IMAGES. */
    private static void smoothedSongs() {
        NobodysBard x = new NobodysBard();
        x.line(2, 0, 1, Due.line(2, 3));
        x.image(0);
        int song = song(x, 6, 10, Due.line(1, 1));
        Due.is("13 not yet", x.whose(0, 0), 5);
        Due.text(x, 0, "1 1 become 2 3 if tale 6;4 4 become 2 3;");
        Due.is("13 with the fashion", x.whose(0, 0), 2);
        Due.text(x, 0, "1 1 become 2 3 if not tale 6;4 4 become 2 3;");
        Due.is("13 of the song's tale", x.whose(0, 0), 5);
        x.line(0, song, 1, Due.line(4, 4));
        Due.is("13 a new line", x.whose(0, 1), 1);
        x.image(1);
        Due.text(x, 0, "");
        Due.is("13 no fashion", x.whose(0, 0), 5);
        x.restore(1);
        Due.is("13 as in the image", x.whose(0, 1), 1);
        x.restore(0);
        Due.is("13 as at first", x.whose(0, 0), 5);
        x.restore(1);
        x.told(0, 1, 1, 0);
        Due.is("13 the first song still", x.whose(0, 1), 1);
        x.print(5);
        Due.is("13 the one told on is early", x.whose(0, 1), 101);
        Due.is("13 kind", x.whose(0, 0), 2);
    }

    private static void late() {
        NobodysBard x = new NobodysBard();
        Due.is("14 no song", x.late(0, 0), -2);
        int early = song(x, 1, 5000, Due.line(1, 2, 3, 4, 5));
        int late = song(x, 1, 5001, Due.line(1, 2, 3, 4, 6), Due.line(7, 8, 9, 10), Due.line(5, 6));
        x.line(2, 0, 1, Due.line(7, 8, 9, 10, 11));
        x.line(2, 0, 1, Due.line(1, 2, 3, 4, 5));
        Due.is("14 known", x.late(late, 0), 1);
        Due.is("14 came back", x.late(late, 1), 2);
        Due.is("14 new", x.late(late, 2), 0);
        Due.is("14 early", x.late(early, 0), -5);
        Due.is("14 no such line of an early one", x.late(early, 1), -2);
        Due.is("14 no such line", x.late(late, 3), -2);
        Due.is("14 no such line", x.late(late, -1), -2);
        Due.is("14 no such song", x.late(-1, 0), -2);
        x.bounds(81, 1);
        Due.is("14 below high", x.late(late, 1), 0);
        Due.is("14 late ones aren't early ones", x.late(late, 0), 0);
    }

    private static NobodysBard seven() {
        NobodysBard x = new NobodysBard();
        song(x, 1, 0, Due.line(1, 1), Due.line(3, 3));
        song(x, 2, 0, Due.line(2, 2));
        book(x, 1, Due.line(4, 4));
        Due.text(x, 0, "3 become 5;");
        x.line(2, 0, 1, Due.line(1, 1));
        x.line(2, 0, 1, Due.line(2, 2));
        x.line(2, 0, 1, Due.line(5, 5));
        x.line(2, 0, 1, Due.line(4, 4));
        x.line(2, 0, 1, Due.line(4, 9));
        x.line(2, 0, 1, Due.line(9, 9));
        x.line(2, 0, 1, Due.line(8, 8));
        return x;
    }

    private static void shareAndSpan() {
        NobodysBard x = new NobodysBard();
        Due.is("15 no lines", x.share(5, 1), -5);
        Due.is("15 kind before no lines", x.share(6, 0), -2);
        Due.is("15 kind", x.share(-1, 0), -2);
        Due.is("15 what", x.share(0, 2), -2);
        Due.is("15 what", x.share(0, -1), -2);
        Due.is("16 no lines", x.span(0), -5);
        Due.is("16 what", x.span(2), -2);
        Due.is("16 what", x.span(-1), -2);
        x = seven();
        int[] many = {1, 1, 1, 1, 1, 2};
        for (int kind = 0; kind < 6; kind++) {
            Due.is("15 how many of " + kind, x.share(kind, 0), many[kind]);
            Due.is("15 share of " + kind, x.share(kind, 1), many[kind] == 1 ? 142 : 285);
        }
        // 3 of 7 is 428, not three times 142
        Due.is("16 least", x.span(0), 428);
        Due.is("16 most", x.span(1), 571);
    }

    private static void chance() {
        NobodysBard x = new NobodysBard();
        Due.is("17 part", x.chance(0, 2), -2);
        Due.is("17 part", x.chance(50, -1), -2);
        Due.is("17 t", x.chance(0, 1), -3);
        Due.is("17 t", x.chance(101, 0), -3);
        x.line(2, 0, 1, Due.line(1, 2));
        book(x, 0, Due.line(1, 2), Due.line(1, 2));
        Due.is("17 its own land doesn't count", x.chance(1, 0), 0);
        Due.is("17 no pairs", x.chance(1, 1), 0);
        book(x, 1, Due.line(8, 9), Due.line(1, 2));
        book(x, 5, Due.line(1, 3), Due.line(5, 2));
        Due.is("17 by 100", x.chance(100, 0), 1);
        Due.is("17 by 100", x.chance(100, 1), 4);
        Due.is("17 by 51", x.chance(51, 1), 4);
        Due.is("17 by 50", x.chance(50, 0), 3);
        Due.is("17 by 50", x.chance(50, 1), 4);
        x.line(2, 0, 1, Due.line(1, 2));
        Due.is("17 least numbers", x.chance(100, 0), 1);
        Due.is("17 least numbers", x.chance(100, 1), 4);
        NobodysBard y = new NobodysBard();
        y.line(2, 0, 1, Due.line(1));
        book(y, 2, Due.line(2));
        Due.is("17 none like", y.chance(1, 0), 0);
        Due.is("17 0 over 1", y.chance(1, 1), 1);
    }

    private static void odds() {
        NobodysBard x = new NobodysBard();
        Due.is("18 part", x.odds(0, 2), -2);
        Due.is("18 part", x.odds(1, -1), -2);
        Due.is("18 t", x.odds(0, 0), -3);
        Due.is("18 t", x.odds(101, 1), -3);
        Due.is("18 nothing", x.odds(1, 0), 0);
        Due.is("18 nothing", x.odds(1, 1), 0);
        x.line(2, 0, 1, Due.line(1, 2));
        x.line(2, 0, 1, Due.line(3, 4));
        x.line(2, 0, 1, Due.line(5, 6));
        song(x, 7, 5000, Due.line(1, 2), Due.line(3, 5));
        song(x, 7, 5001, Due.line(5, 6));
        Due.is("18 no chance", x.odds(50, 0), 0);
        Due.is("18 no chance", x.odds(50, 1), 0);
        int land = book(x, 2, Due.line(9, 9));
        Due.is("18 chance 0", x.odds(50, 0), 1);
        Due.is("18 chance 0", x.odds(50, 1), 0);
        x.line(1, land, 0, Due.line(1, 9));
        // 3 of 6 by 50 with songs, 1 of 6 with books
        Due.is("18 odds", x.odds(50, 0), 3);
        Due.is("18 odds", x.odds(50, 1), 1);
        // 1 of 6 by 100, none of 6
        Due.is("18 by 100", x.odds(100, 0), 1);
        Due.is("18 by 100", x.odds(100, 1), 0);
        x.line(1, land, 0, Due.line(1, 2));
        // 3 of 6, 2 of 9
        Due.is("18 9 over 4", x.odds(50, 0), 9);
        Due.is("18 9 over 4", x.odds(50, 1), 4);
        x.bounds(100, 100);
        Due.is("18 not by the bounds", x.odds(50, 0), 9);
        NobodysBard y = new NobodysBard();
        y.line(2, 0, 0, Due.line(1));
        book(y, 1, Due.line(1));
        song(y, 1, 1, Due.line(2));
        Due.is("18 none of the songs", y.odds(1, 0), 0);
        Due.is("18 0 over 1", y.odds(1, 1), 1);
    }

    private static void matchesAndMost() {
        NobodysBard x = new NobodysBard();
        Due.is("19 no book", x.matches(0, 0), -2);
        Due.is("20 part", x.most(0, 3), -2);
        Due.is("20 part", x.most(1, -1), -2);
        Due.is("20 t", x.most(0, 2), -3);
        Due.is("20 t", x.most(101, 2), -3);
        Due.is("20 no books", x.most(100, 2), -5);
        x.line(2, 0, 1, Due.line(1, 2));
        x.line(2, 0, 2, Due.line(1, 2));
        x.line(2, 0, 3, Due.line(1, 4));
        int none = book(x, 0);
        Due.is("20 none match", x.most(1, 2), 0);
        Due.is("20 none match", x.most(1, 0), 0);
        Due.is("20 none match", x.most(1, 1), 0);
        int two = book(x, 0, Due.line(1, 2), Due.line(2, 1));
        int all = book(x, 4, Due.line(1, 4));
        int same = book(x, 5, Due.line(4), Due.line(1, 2));
        Due.is("19 t", x.matches(two, 0), -3);
        Due.is("19 t", x.matches(two, 101), -3);
        Due.is("19 book", x.matches(4, 1), -2);
        Due.is("19 book", x.matches(-1, 1), -2);
        Due.is("19 none", x.matches(none, 1), 0);
        Due.is("19 each line once", x.matches(two, 100), 2);
        Due.is("19 by less", x.matches(two, 50), 3);
        Due.is("19 other land", x.matches(all, 50), 3);
        Due.is("19 by 51", x.matches(all, 51), 1);
        Due.is("19", x.matches(same, 100), 2);
        Due.is("20 the first of like ones", x.most(100, 2), two);
        Due.is("20 2 times 4 by 5", x.most(100, 0), 8);
        Due.is("20 2 times 4 by 5", x.most(100, 1), 5);
        Due.is("20 3 times 4 by 9", x.most(50, 0), 4);
        Due.is("20 3 times 4 by 9", x.most(50, 1), 3);
    }

    private static void adds() {
        NobodysBard x = seven();
        Due.is("21 no book", x.adds(1, 0), -2);
        Due.is("21 no book", x.adds(-1, 0), -2);
        Due.is("21 tale", x.adds(0, 10), -3);
        Due.is("21 tale", x.adds(0, -1), -3);
        Due.is("22 no book", x.added(1, 0, 0), -2);
        Due.is("22 tale", x.added(0, 10, 0), -3);
        Due.is("22 tale", x.added(0, -1, 0), -3);
        Due.is("21 the borrowed one", x.adds(0, 0), 1);
        Due.is("22 the borrowed one", x.added(0, 0, 0), 3);
        int book = book(x, 3, Due.line(1, 1), Due.line(9, 9), Due.line(3, 3), Due.line(6, 6));
        Due.is("21 what is theirs isn't counted", x.adds(book, 0), 1);
        Due.is("22 own", x.added(book, 0, 0), 5);
        Due.is("22 not so many", x.added(book, 0, 1), -1);
        Due.is("22 below", x.added(book, 0, -1), -1);
        Due.text(x, 0, "3 become 5;6 6 become 8 8 if tale 4;");
        Due.is("21 smoothed of that tale", x.adds(book, 4), 2);
        Due.is("22 the first", x.added(book, 4, 0), 5);
        Due.is("22 the second", x.added(book, 4, 1), 6);
        Due.is("22 the third", x.added(book, 4, 2), -1);
        Due.is("21 of another tale", x.adds(book, 3), 1);
        x.bounds(50, 50);
        x.line(1, book, 0, Due.line(4, 4));
        Due.is("21 by HIGH", x.adds(book, 4), 4);
        Due.is("22 the first", x.added(book, 4, 0), 3);
    }

    private static void year() {
        NobodysBard x = new NobodysBard();
        Due.is("23 word 0", x.year(0, 10000), -2);
        Due.is("23 word 256", x.year(256, 1), -2);
        Due.is("23 year -1", x.year(1, -1), -3);
        Due.is("23 year 10000", x.year(255, 10000), -3);
        Due.is("23 first", x.year(255, 9999), 0);
        Due.is("23 then", x.year(255, 0), 9999);
        Due.is("23 each its own", x.year(1, 5), 0);
        Due.is("23 then", x.year(1, 5), 5);
    }

    private static void version() {
        NobodysBard x = new NobodysBard();
        long one = Due.line(1);
        Due.is("24 no words", x.version(0, one, 0, 0), -3);
        Due.is("24 no words", x.version(one, Due.line(0, 1), 0, 0), -3);
        Due.is("24 day", x.version(one, one, -1, 0), -3);
        Due.is("24 day", x.version(one, one, 10000, 0), -3);
        Due.is("24 tale", x.version(one, one, 0, -1), -3);
        Due.is("24 tale", x.version(one, one, 0, 10), -3);
        for (int i = 0; i < 20; i++) Due.is("24 number", x.version(one, Due.line(2, i + 1), 9999, 9), i);
        Due.is("24 a number before full", x.version(one, one, 0, 10), -3);
        Due.is("24 full", x.version(one, one, 0, 0), -4);
        Due.is("24 count", x.count(4), 20);
        Due.is("24 new one", x.words(4, 19, 0), Due.line(2, 20));
    }

    private static void which() {
        NobodysBard x = new NobodysBard();
        Due.is("25 none", x.which(0), -2);
        Due.is("25 none", x.which(-1), -2);
        x.version(Due.line(1, 2), Due.line(3, 2), 1500, 6);
        x.version(Due.line(3, 2), Due.line(1, 2), 1500, 6);
        x.version(Due.line(3, 2), Due.line(1, 2), 1500, 7);
        x.version(Due.line(5), Due.line(5, 0, 9), 1500, 7);
        Due.is("25 nothing told", x.which(0), 2);
        Due.is("25 the same line", x.which(3), 0);
        Due.text(x, 0, "1 become 3 if tale 6;");
        Due.is("25 the old one", x.which(0), 0);
        Due.is("25 the new one", x.which(1), 1);
        Due.is("25 of its tale", x.which(2), 2);
        x.year(2, 1500);
        Due.is("25 as old as that", x.which(0), 0);
        x.year(3, 1501);
        Due.is("25 a word of the new one", x.which(0), 0);
        x.year(2, 1501);
        Due.is("25 a younger word", x.which(0), 1);
        Due.is("25 not there", x.which(3), 0);
        Due.is("25 none", x.which(4), -2);
    }
}
