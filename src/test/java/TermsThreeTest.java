/** "Terms", ==== 3: each sentence that names a bound of WHOSE, FROM, KNOWN, SHARE, FRACTIONS, MATCHES, ADDS, YEARS, VERSIONS. */
public final class TermsThreeTest {
    private static final long FIVE = Due.line(1, 2, 3, 4, 5);
    private static final long FOUR_OF_FIVE = Due.line(1, 2, 3, 4, 90);
    private static final long THREE_OF_FIVE = Due.line(1, 2, 3, 90, 91);
    private static final long TWO_OF_FIVE = Due.line(1, 2, 90, 91, 92);

    public static void main(String[] args) {
        byHighOrMore();
        byLowOrMore();
        theFirstOfTheseThatHolds();
        from();
        fromTheLast();
        knownCameBackNew();
        shares();
        spans();
        chances();
        fractions();
        odds();
        matches();
        most();
        adds();
        years();
        which();
        Due.end("TermsThreeTest");
    }

    private static int group(NobodysBard x, int what, int sort, int day, long... lines) {
        int number = x.open(what, sort, 0, day);
        for (long line : lines) x.line(what, number, 0, line);
        return number;
    }

    private static NobodysBard printed(long... lines) {
        NobodysBard x = new NobodysBard();
        for (long line : lines) x.line(2, 0, 1, line);
        return x;
    }

    /** 0 HAD, 1 MOVED, 2 SMOOTHED, 3 BORROWED: each by HIGH, and not by one less. */
    private static void byHighOrMore() {
        for (int kind = 0; kind < 4; kind++) {
            for (int high = 59; high <= 81; high++) {
                NobodysBard x = printed(FIVE);
                x.bounds(high, 1);
                put(x, kind, FOUR_OF_FIVE, THREE_OF_FIVE);
                boolean is = high <= 80;
                Due.is("T3 kind " + kind + " by HIGH " + high, x.whose(0, 0), is ? kind : 4);
                Due.is("T3 FROM of kind " + kind + " by HIGH " + high, x.whose(0, 1), is ? kind == 3 ? 100 : 0 : -1);
            }
            for (int high : new int[] {1, 100}) {
                NobodysBard x = printed(FIVE, Due.line(200));
                x.bounds(high, 1);
                put(x, kind, FIVE, FIVE);
                Due.is("T3 kind " + kind + ", the same LINE, by HIGH " + high, x.whose(0, 0), kind);
                Due.is("T3 nothing in common, by HIGH " + high, x.whose(1, 0), 5);
                Due.is("T3 nothing in common, from, by HIGH " + high, x.whose(1, 1), -1);
            }
        }
    }

    /** Something that is LIKE FIVE in the way of a kind: by line, and the one behind it by other. */
    private static void put(NobodysBard x, int kind, long line, long other) {
        if (kind < 2) group(x, 0, kind == 0 ? 1 : 2, 0, line, other);
        if (kind == 2) {
            group(x, 0, 7, 0, Due.line(60, 61), Due.line(62));
            Due.text(x, 0, rule("60 61", line) + rule("62", other));
            // rules have at most four WORDS on a side: the fifth comes by another one
            Due.is("T3 SMOOTHED is the LINE", x.smoothed(Due.line(60, 61), 7), line);
        }
        if (kind == 3) {
            group(x, 1, 0, 0);
            group(x, 1, 5, 0, line, other);
        }
    }

    private static String rule(String from, long line) {
        int[] w = new int[5];
        for (int i = 0; i < 5; i++) w[i] = (int) (line >>> 56 - 8 * i) & 255;
        String first = from.split(" ")[0];
        int mid = 200 + Integer.parseInt(first) % 50;
        return from + " become " + w[0] + " " + w[1] + " " + mid + " if tale 7;"
            + mid + " become " + w[2] + " " + w[3] + " " + w[4] + " if tale 7;";
    }

    /** "4 it MAY BE: one of all these is by LOW or more": by each of the four ways, and "5 his OWN" by one less. */
    private static void byLowOrMore() {
        for (int kind = 0; kind < 4; kind++) {
            for (int low = 39; low <= 61; low++) {
                NobodysBard x = printed(FIVE);
                x.bounds(90, low);
                put(x, kind, THREE_OF_FIVE, TWO_OF_FIVE);
                Due.is("T3 MAY BE by kind " + kind + ", LOW " + low, x.whose(0, 0), low <= 60 ? 4 : 5);
                Due.is("T3 FROM by kind " + kind + ", LOW " + low, x.whose(0, 1), -1);
            }
        }
        NobodysBard x = printed(FIVE);
        group(x, 0, 1, 5001, FIVE);
        Due.is("T3 LATE SONGS aren't among these", x.whose(0, 0), 5);
        group(x, 0, 1, 0);
        group(x, 1, 1, 0);
        Due.is("T3 SONGS and BOOKS without LINES", x.whose(0, 0), 5);
        x.bounds(1, 1);
        Due.is("T3 nothing LIKE it, by the least bounds", x.whose(0, 0), 5);
    }

    /** "The first of these that holds", though one behind it is LIKE it more. */
    private static void theFirstOfTheseThatHolds() {
        for (int first = 0; first < 4; first++) {
            NobodysBard x = printed(FIVE);
            for (int kind = 3; kind > first; kind--) put(x, kind, FIVE, FIVE);
            put(x, first, FOUR_OF_FIVE, FOUR_OF_FIVE);
            Due.is("T3 the first is " + first, x.whose(0, 0), first);
        }
        // What a SONG has as it is counts SMOOTHED, too, where its FASHION leaves it: but HAD and MOVED hold before.
        NobodysBard x = printed(FIVE);
        group(x, 0, 3, 0, FIVE);
        Due.is("T3 MOVED holds before SMOOTHED", x.whose(0, 0), 1);
        Due.text(x, 0, "1 become 80;2 become 81;");
        Due.is("T3 MOVED holds, though SMOOTHED it isn't any more", x.whose(0, 0), 1);
    }

    /** "FROM: ... that is LIKE it most by that (of like ones the first SONG, BOOK, then LINE); NONE of 4, 5". */
    private static void from() {
        for (int kind = 0; kind < 4; kind++) {
            int sort = kind == 0 ? 1 : 7;
            int what = kind == 3 ? 1 : 0;
            NobodysBard x = printed(FIVE);
            if (kind == 2) Due.text(x, 0, "60 become 1;");
            long four = kind == 2 ? Due.line(60, 2, 3, 90, 5) : FOUR_OF_FIVE;
            long five = kind == 2 ? Due.line(60, 2, 3, 4, 5) : FIVE;
            if (kind == 2) x.bounds(80, 1);
            int empty = what == 1 ? x.open(1, 0, 0, 0) : x.open(0, sort, 0, 0);
            Due.is("T3 one without LINES", empty, 0);
            group(x, what, what == 1 ? 0 : sort, 0, Due.line(99), four, four);
            Due.is("T3 of like ones the first LINE, kind " + kind, x.whose(0, 1), 101);
            group(x, what, what == 1 ? 0 : sort, 0, four);
            Due.is("T3 of like ones the first one, kind " + kind, x.whose(0, 1), 101);
            if (kind != 2) {
                group(x, what, what == 1 ? 0 : sort, 0, Due.line(99), Due.line(98), Due.line(97), five);
                Due.is("T3 LIKE it most, kind " + kind, x.whose(0, 1), 303);
                group(x, what, what == 1 ? 0 : sort, 0, five);
                Due.is("T3 LIKE it most, the first, kind " + kind, x.whose(0, 1), 303);
            }
        }
        // of SMOOTHED ones the one that is LIKE it most SMOOTHED, not as it is
        NobodysBard x = printed(FIVE);
        Due.text(x, 0, "60 61 become 1 2;62 63 become 4 5;");
        group(x, 0, 7, 0, Due.line(60, 61, 3, 4, 90), Due.line(60, 61, 3, 62, 63));
        Due.is("T3 SMOOTHED", x.whose(0, 0), 2);
        Due.is("T3 LIKE it most SMOOTHED", x.whose(0, 1), 1);
        // MOVED: those of its own TALE aren't looked at
        NobodysBard y = printed(FIVE);
        group(y, 0, 1, 0, THREE_OF_FIVE);
        group(y, 0, 2, 0, FOUR_OF_FIVE);
        group(y, 0, 2, 9999, FIVE);
        Due.is("T3 MOVED from", y.whose(0, 1), 100);
    }

    /** "100 times the SONG (3: the BOOK) and the LINE": of the last LINE of the last one. */
    private static void fromTheLast() {
        NobodysBard x = printed(FIVE, Due.line(80, 81));
        for (int song = 0; song < 40; song++) x.open(0, 1, 0, 0);
        for (int book = 0; book < 12; book++) x.open(1, 1, 0, 0);
        for (int line = 0; line < 11; line++) {
            x.line(0, 39, 0, Due.line(100 + line));
            x.line(1, 11, 0, Due.line(120 + line));
        }
        x.line(0, 39, 0, FIVE);
        x.line(1, 11, 0, Due.line(80, 81));
        Due.is("T3 SONG 39, LINE 11", x.whose(0, 1), 3911);
        Due.is("T3 BOOK 11, LINE 11", x.whose(1, 1), 1111);
    }

    /** "KNOWN (1) ... by HIGH or more; else CAME BACK (2) ...; else NEW (0)". */
    private static void knownCameBackNew() {
        for (int high = 59; high <= 81; high++) {
            NobodysBard x = new NobodysBard();
            x.bounds(high, 1);
            group(x, 0, 1, 9000, FIVE);
            Due.is("T3 NEW, there is nothing else", x.late(0, 0), 0);
            x.line(2, 0, 9, FOUR_OF_FIVE);
            Due.is("T3 CAME BACK by HIGH " + high, x.late(0, 0), high <= 80 ? 2 : 0);
            group(x, 0, 9, 9000, FIVE);
            Due.is("T3 LATE SONGS don't count by HIGH " + high, x.late(0, 0), high <= 80 ? 2 : 0);
            group(x, 1, 1, 0, FIVE);
            Due.is("T3 BOOKS don't count by HIGH " + high, x.late(0, 0), high <= 80 ? 2 : 0);
            group(x, 0, 9, 0, THREE_OF_FIVE);
            Due.is("T3 KNOWN by HIGH " + high, x.late(0, 0), high <= 60 ? 1 : high <= 80 ? 2 : 0);
            Due.text(x, 0, "90 91 become 4 5;");
            Due.is("T3 SMOOTHED doesn't count by HIGH " + high, x.late(0, 0), high <= 60 ? 1 : high <= 80 ? 2 : 0);
        }
    }

    /** "SHARE of a kind: thousandths of THE PRINT's LINES, cut": of 1 to 60 LINES. */
    private static void shares() {
        NobodysBard x = new NobodysBard();
        group(x, 0, 1, 0, FIVE);
        for (int lines = 1; lines <= 60; lines++) {
            x.line(2, 0, 1, lines % 3 == 1 ? FIVE : Due.line(99));
            int had = (lines + 2) / 3;
            Due.is("T3 HAD of " + lines, x.share(0, 0), had);
            Due.is("T3 SHARE of HAD of " + lines, x.share(0, 1), 1000 * had / lines);
            Due.is("T3 SHARE of OWN of " + lines, x.share(5, 1), 1000 * (lines - had) / lines);
            Due.is("T3 SHARE of none of " + lines, x.share(3, 1), 0);
            Due.is("T3 SPAN of " + lines, x.span(0), 1000 * had / lines);
            Due.is("T3 SPAN of " + lines, x.span(1), 1000 * had / lines);
        }
    }

    /** "SPAN: SHARES of 0 to 2 by how many LINES together, and with 4, too": cut once, and 3 isn't in it. */
    private static void spans() {
        NobodysBard x = new NobodysBard();
        Due.text(x, 0, "30 become 31;");
        group(x, 0, 1, 0, Due.line(10, 10), Due.line(30, 30), Due.line(40, 41));
        group(x, 0, 2, 0, Due.line(20, 20));
        group(x, 1, 0, 0, Due.line(50, 50));
        long[] kinds = {Due.line(10, 10), Due.line(20, 20), Due.line(31, 31), Due.line(50, 50), Due.line(40, 99), Due.line(98, 99), Due.line(97, 99)};
        for (long line : kinds) x.line(2, 0, 1, line);
        // nothing was asked ahead of it
        Due.is("T3 least: 3 of 7", x.span(0), 428);
        x.line(2, 0, 1, Due.line(10, 10));
        Due.is("T3 most: 5 of 8", x.span(1), 625);
        x.print(0);
        x.open(0, 1, 0, 0);
        Due.is("T3 least: 4 of 8", x.span(0), 500);
        x.bounds(100, 51);
        Due.is("T3 most, where there is no MAY BE: 4 of 8", x.span(1), 500);
        x.bounds(80, 50);
        int[] many = {2, 1, 1, 1, 1, 2};
        for (int kind = 0; kind < 6; kind++) Due.is("T3 of kind " + kind, x.share(kind, 0), many[kind]);
        x.line(2, 0, 1, Due.line(96, 95));
        x.line(2, 0, 1, Due.line(94, 93));
        x.line(2, 0, 1, Due.line(92, 91));
        Due.is("T3 HAD: 2 of 11", x.share(0, 1), 181);
        Due.is("T3 MOVED: 1 of 11", x.share(1, 1), 90);
        Due.is("T3 least: 4 of 11, not 181 and twice 90", x.span(0), 363);
        Due.is("T3 most: 5 of 11, not 181 and three times 90", x.span(1), 454);
    }

    /** "of all pairs ... LIKE by t or more", BOOKS of LANDS 1 to 5 alone, each pair counted. */
    private static void chances() {
        for (int t = 39; t <= 61; t++) {
            NobodysBard x = printed(FIVE, FIVE);
            group(x, 1, 0, 0, FIVE);
            Due.is("T3 its own LAND, by " + t, x.chance(t, 1), 0);
            for (int land = 1; land <= 5; land++) group(x, 1, land, 0, land % 2 == 0 ? THREE_OF_FIVE : TWO_OF_FIVE);
            // ten pairs, four of them by 60, all by 40
            Due.is("T3 upper by " + t, x.chance(t, 0), t <= 40 ? 1 : t <= 60 ? 2 : 0);
            Due.is("T3 lower by " + t, x.chance(t, 1), t <= 40 ? 1 : t <= 60 ? 5 : 1);
        }
        NobodysBard x = printed(FIVE);
        group(x, 1, 1, 0, Due.line(99), FIVE);
        Due.is("T3 the least t: nothing in common isn't by 1", x.chance(1, 0) * 10 + x.chance(1, 1), 12);
        Due.is("T3 the greatest t: the same LINE", x.chance(100, 0) * 10 + x.chance(100, 1), 12);
    }

    private static void fraction(String name, long upper, long lower, long wantUpper, long wantLower) {
        Due.is("T3 " + name + ", upper", upper, wantUpper);
        Due.is("T3 " + name + ", lower", lower, wantLower);
    }

    /** "(upper 0: 0 over 1; lower 0, upper not: 1 over 0; both 0: 0 over 0; CHANCE of no pairs: 0 over 0; ...)". */
    private static void fractions() {
        NobodysBard x = new NobodysBard();
        fraction("CHANCE of nothing", x.chance(50, 0), x.chance(50, 1), 0, 0);
        x.line(2, 0, 0, FIVE);
        fraction("CHANCE without BOOKS", x.chance(50, 0), x.chance(50, 1), 0, 0);
        group(x, 1, 1, 0);
        fraction("CHANCE with a BOOK without LINES", x.chance(50, 0), x.chance(50, 1), 0, 0);
        group(x, 1, 0, 0, FIVE);
        fraction("CHANCE with its own LAND alone", x.chance(50, 0), x.chance(50, 1), 0, 0);
        NobodysBard y = new NobodysBard();
        group(y, 1, 1, 0, FIVE);
        fraction("CHANCE without a LINE of THE PRINT", y.chance(50, 0), y.chance(50, 1), 0, 0);
        y.line(2, 0, 0, Due.line(99));
        fraction("CHANCE, upper 0", y.chance(50, 0), y.chance(50, 1), 0, 1);
        y.line(1, 0, 0, Due.line(99));
        fraction("CHANCE by least numbers", y.chance(50, 0), y.chance(50, 1), 1, 2);
        NobodysBard z = printed(FIVE);
        group(z, 1, 3, 0, FIVE);
        fraction("CHANCE, all of them", z.chance(50, 0), z.chance(50, 1), 1, 1);
        fraction("LOOKED, all of them", z.most(50, 0), z.most(50, 1), 1, 1);
        NobodysBard none = printed(FIVE);
        group(none, 1, 3, 0, Due.line(99));
        fraction("LOOKED, both 0", none.most(50, 0), none.most(50, 1), 0, 0);
    }

    /** "ODDS by t: such a FRACTION with LINES of EARLY SONGS, by CHANCE", "upper and lower multiplied out first". */
    private static void odds() {
        NobodysBard x = printed(FIVE);
        fraction("ODDS without SONGS and BOOKS", x.odds(50, 0), x.odds(50, 1), 0, 0);
        group(x, 1, 1, 0, FIVE);
        fraction("ODDS without SONGS", x.odds(50, 0), x.odds(50, 1), 0, 0);
        group(x, 0, 1, 5001, FIVE);
        fraction("ODDS with LATE SONGS alone", x.odds(50, 0), x.odds(50, 1), 0, 0);
        group(x, 0, 1, 0, Due.line(99));
        fraction("ODDS 0 over 1, by 1 over 1", x.odds(50, 0), x.odds(50, 1), 0, 1);
        x.line(0, 1, 0, FIVE);
        fraction("ODDS 1 over 2, by 1 over 1", x.odds(50, 0), x.odds(50, 1), 1, 2);
        x.line(1, 0, 0, Due.line(99));
        fraction("ODDS 1 over 2, by 1 over 2", x.odds(50, 0), x.odds(50, 1), 1, 1);
        x.line(1, 0, 0, Due.line(98));
        fraction("ODDS 1 over 2, by 1 over 3", x.odds(50, 0), x.odds(50, 1), 3, 2);
        NobodysBard y = printed(FIVE);
        group(y, 0, 1, 0, FIVE);
        fraction("ODDS by a CHANCE of no pairs", y.odds(50, 0), y.odds(50, 1), 0, 0);
        group(y, 1, 1, 0, Due.line(99));
        fraction("ODDS by a CHANCE of 0", y.odds(50, 0), y.odds(50, 1), 1, 0);
        NobodysBard z = printed(FIVE);
        group(z, 0, 1, 0, Due.line(99));
        group(z, 1, 1, 0, Due.line(99));
        fraction("ODDS of 0 by a CHANCE of 0", z.odds(50, 0), z.odds(50, 1), 0, 0);
    }

    /** "LINES of THE PRINT to which one of its LINES is LIKE by t or more". */
    private static void matches() {
        for (int t = 39; t <= 61; t++) {
            NobodysBard x = printed(FIVE, FIVE, THREE_OF_FIVE, Due.line(99));
            int book = group(x, 1, 0, 0, TWO_OF_FIVE, FIVE, THREE_OF_FIVE, THREE_OF_FIVE);
            Due.is("T3 MATCHES by " + t, x.matches(book, t), 3);
            int other = group(x, 1, 0, 0, TWO_OF_FIVE);
            // TWO_OF_FIVE and THREE_OF_FIVE have 1 2 90 91 in common
            Due.is("T3 MATCHES of another by " + t, x.matches(other, t), t <= 40 ? 3 : 1);
            Due.is("T3 MATCHES of one without LINES by " + t, x.matches(x.open(1, 5, 0, 0), t), 0);
        }
    }

    /** "MOST: the BOOK with most of them, the first. LOOKED: its MATCHES times how many BOOKS there are, by all BOOKS' MATCHES together". */
    private static void most() {
        NobodysBard x = printed(FIVE, FIVE, Due.line(99));
        group(x, 1, 0, 0);
        Due.is("T3 MOST of no MATCHES", x.most(100, 2), 0);
        group(x, 1, 0, 0, Due.line(99));
        Due.is("T3 MOST", x.most(100, 2), 1);
        group(x, 1, 4, 0, FIVE);
        Due.is("T3 MOST, of another LAND", x.most(100, 2), 2);
        fraction("LOOKED 2 times 3 by 3", x.most(100, 0), x.most(100, 1), 2, 1);
        group(x, 1, 0, 0, FIVE);
        Due.is("T3 MOST, the first of like ones", x.most(100, 2), 2);
        fraction("LOOKED 2 times 4 by 5", x.most(100, 0), x.most(100, 1), 8, 5);
        group(x, 1, 0, 0, FIVE, Due.line(99));
        Due.is("T3 MOST, three of them", x.most(100, 2), 4);
        fraction("LOOKED 3 times 5 by 8", x.most(100, 0), x.most(100, 1), 15, 8);
        for (int i = 5; i < 12; i++) group(x, 1, 0, 0, FIVE, Due.line(99));
        Due.is("T3 MOST, of twelve the first", x.most(100, 2), 4);
        fraction("LOOKED 3 times 12 by 29", x.most(100, 0), x.most(100, 1), 36, 29);
    }

    /** "how many LINES of THE PRINT that are 3 to 5 would be 0 to 2, if it were an EARLY SONG of that TALE". */
    private static void adds() {
        // one LINE of each kind; the BOOK has each of them
        NobodysBard x = new NobodysBard();
        Due.text(x, 0, "30 become 31;");
        group(x, 0, 1, 0, Due.line(10, 10), Due.line(30, 30), Due.line(40, 41));
        group(x, 0, 2, 0, Due.line(20, 20));
        group(x, 1, 0, 0, Due.line(50, 50));
        long[] kinds = {Due.line(10, 10), Due.line(20, 20), Due.line(31, 31), Due.line(50, 50), Due.line(40, 99), Due.line(98, 99)};
        for (long line : kinds) x.line(2, 0, 1, line);
        Due.is("T3 ADDS of the one that was borrowed from", x.adds(0, 1), 1);
        Due.is("T3 it is the LINE", x.added(0, 1, 0), 3);
        int book = x.open(1, 0, 0, 0);
        Due.is("T3 ADDS of a BOOK without LINES", x.adds(book, 1), 0);
        Due.is("T3 the first of none", x.added(book, 1, 0), -1);
        for (long line : kinds) x.line(1, book, 0, line);
        // BORROWED now are all but the first three: kinds 0 to 2 stay what they are
        for (int tale = 0; tale <= 9; tale++) {
            Due.is("T3 ADDS with TALE " + tale, x.adds(book, tale), 3);
            for (int i = 0; i < 3; i++) Due.is("T3 the i-th " + i, x.added(book, tale, i), 3 + i);
            Due.is("T3 not so many", x.added(book, tale, 3), -1);
            Due.is("T3 none below", x.added(book, tale, -1), -1);
        }
        for (int high = 79; high <= 81; high++) {
            NobodysBard y = printed(FIVE);
            y.bounds(high, 1);
            group(y, 1, 0, 0, FOUR_OF_FIVE);
            Due.is("T3 ADDS by HIGH " + high, y.adds(0, 1), high <= 80 ? 1 : 0);
            NobodysBard z = printed(FIVE);
            z.bounds(high, 1);
            group(z, 1, 0, 0, Due.line(60, 2, 3, 4, 90));
            Due.text(z, 0, "60 become 1 if tale 6;");
            Due.is("T3 ADDS by HIGH " + high + " SMOOTHED of that TALE", z.adds(0, 6), high <= 80 ? 1 : 0);
            Due.is("T3 ADDS by HIGH " + high + " SMOOTHED of another TALE", z.adds(0, 5), 0);
        }
        // a LINE as it is counts, though SMOOTHED it is another; and the other way about
        NobodysBard asItIs = printed(FIVE, Due.line(70, 71));
        Due.text(asItIs, 0, "1 2 3 4 become 60;80 become 70;");
        group(asItIs, 1, 0, 0, FIVE);
        Due.is("T3 ADDS by a LINE as it is", asItIs.adds(0, 0), 1);
        asItIs.line(1, 0, 0, Due.line(80, 71));
        Due.is("T3 ADDS by a LINE SMOOTHED, too", asItIs.adds(0, 0), 2);
        Due.is("T3 the first of both", asItIs.added(0, 0, 0), 0);
        Due.is("T3 the second of both", asItIs.added(0, 0, 1), 1);
        // sixty of them
        NobodysBard many = new NobodysBard();
        group(many, 1, 0, 0, FIVE);
        for (int i = 0; i < 60; i++) many.line(2, 0, i % 10, FIVE);
        Due.is("T3 ADDS of all", many.adds(0, 0), 60);
        Due.is("T3 the last of all", many.added(0, 0, 59), 59);
        Due.is("T3 not so many", many.added(0, 0, 60), -1);
        Due.is("T3 it wasn't put in", many.share(3, 0), 60);
    }

    /** "Each WORD has a YEAR (0 to 9999; 0 at first)". */
    private static void years() {
        NobodysBard x = new NobodysBard();
        for (int word = 1; word <= 255; word++) Due.is("T3 YEAR of " + word + " at first", x.year(word, word * 39), 0);
        for (int word = 1; word <= 255; word++) Due.is("T3 YEAR of " + word + " then", x.year(word, 9999), word * 39);
    }

    /** "1 the new one, if the old one has a WORD whose YEAR is above that DAY; else 0 ...; else 1 ...; else 2". */
    private static void which() {
        for (int at = 0; at < 8; at++) {
            int[] words = {1, 2, 3, 4, 5, 6, 7, 8};
            words[at] = 255;
            NobodysBard x = new NobodysBard();
            x.version(Due.line(words), Due.line(9), 1000, 0);
            x.version(Due.line(9), Due.line(words), 1000, 0);
            x.year(255, 1000);
            Due.is("T3 of that DAY isn't above it, WORD " + at, x.which(0), 2);
            x.year(255, 1001);
            Due.is("T3 above that DAY, WORD " + at, x.which(0), 1);
            Due.is("T3 a WORD of the new one, WORD " + at, x.which(1), 2);
        }
        NobodysBard x = new NobodysBard();
        x.version(Due.line(1), Due.line(1), 0, 0);
        x.version(Due.line(1), Due.line(1), 9999, 0);
        Due.is("T3 YEAR 0, DAY 0", x.which(0), 0);
        x.year(1, 1);
        Due.is("T3 YEAR 1, DAY 0: though they are the same", x.which(0), 1);
        x.year(1, 9999);
        Due.is("T3 YEAR 9999, DAY 9999", x.which(1), 0);
        NobodysBard y = new NobodysBard();
        Due.text(y, 0, "1 become 2;2 become 1;3 become 4;");
        y.version(Due.line(3), Due.line(4), 0, 0);
        y.version(Due.line(4), Due.line(3), 0, 0);
        y.version(Due.line(3, 5), Due.line(4), 0, 0);
        y.version(Due.line(1), Due.line(1), 0, 0);
        y.version(Due.line(3), Due.line(3), 0, 0);
        Due.is("T3 the old one SMOOTHED is the new one", y.which(0), 0);
        Due.is("T3 the new one SMOOTHED is the old one", y.which(1), 1);
        Due.is("T3 LIKE isn't the same", y.which(2), 2);
        Due.is("T3 twelve times there and back is the same", y.which(3), 0);
        Due.is("T3 the same, but SMOOTHED another", y.which(4), 2);
    }
}
