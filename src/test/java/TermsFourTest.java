/** "Terms", ==== 4: each sentence that names a bound of ANSWERS, PAID, PAGES, FREE, RATE, WORLDS, ROWS and IMAGES. */
public final class TermsFourTest {
    private static final long OURS = Due.line(1, 2, 3, 4, 5);
    private static final long HIS = Due.line(11, 12, 13, 14, 15);

    public static void main(String[] args) {
        backByDay();
        backByHigh();
        oddsThatItIs();
        oddsByHope();
        parted();
        muddled();
        moreByDays();
        moreAtTheEnds();
        moreOfAll();
        rateByDays();
        rateAtItsBounds();
        eachDayOnce();
        costOfSets();
        costByParts();
        eightWorlds();
        says();
        rowsOfEachSort();
        rowsOfEachLength();
        eachRowByItself();
        ministersNumbers();
        saysOfALine();
        askedAgain();
        imagesHoldAllBut();
        imagesHoldEach();
        imagesBeyondTheBounds();
        fromZeroOn();
        Due.end("TermsFourTest");
    }

    private static NobodysBard asked() {
        NobodysBard x = new NobodysBard();
        x.open(0, 1, 0, 0);
        x.line(0, 0, 0, OURS);
        x.line(2, 0, 1, HIS);
        return x;
    }

    // ---- ANSWERS

    /** "It is BACK, if its DAY is above THE PRINT's". */
    private static void backByDay() {
        for (int day : new int[] {0, 1, 4999, 5000, 5001, 9998, 9999}) {
            NobodysBard x = asked();
            x.answer(0, day, 0, 1, 1, HIS);
            Due.is("T4 BACK on " + day, x.back(0), day > 5000 ? 1 : 0);
            x.print(day);
            Due.is("T4 not BACK on THE PRINT's DAY " + day, x.back(0), 0);
            Due.is("T4 ODDS on THE PRINT's DAY " + day, x.backOdds(0, 0) * 10 + x.backOdds(0, 1), 1);
            x.print(9999);
            Due.is("T4 not BACK long ahead of THE PRINT's DAY " + day, x.back(0), 0);
            Due.is("T4 ODDS long ahead of THE PRINT's DAY " + day, x.backOdds(0, 0) * 10 + x.backOdds(0, 1), 1);
            if (day == 0) continue;
            x.print(day - 1);
            Due.is("T4 BACK the DAY behind " + (day - 1), x.back(0), 1);
            Due.is("T4 ODDS the DAY behind " + (day - 1), x.backOdds(0, 0) * 10 + x.backOdds(0, 1), 10);
        }
    }

    /** "its LINE is LIKE one of THE PRINT by HIGH or more, and none of EARLY SONGS so". */
    private static void backByHigh() {
        long mixed = Due.line(11, 12, 13, 1, 2);
        for (int high = 39; high <= 61; high++) {
            NobodysBard x = asked();
            x.bounds(high, 1);
            x.answer(0, 9999, 0, 1, 1, mixed);
            // 60 to THE PRINT, 40 to the SONG
            Due.is("T4 BACK by HIGH " + high, x.back(0), high > 40 && high <= 60 ? 1 : 0);
            Due.is("T4 not MUDDLED by HIGH " + high, x.muddled(-1), 0);
            x.open(0, 1, 0, 5001);
            x.line(0, 1, 0, mixed);
            Due.is("T4 LATE SONGS don't count, HIGH " + high, x.back(0), high > 40 && high <= 60 ? 1 : 0);
            x.open(1, 0, 0, 0);
            x.line(1, 0, 0, mixed);
            Due.is("T4 BOOKS don't count, HIGH " + high, x.back(0), high > 40 && high <= 60 ? 1 : 0);
            x.print(5001);
            Due.is("T4 EARLY ones do, HIGH " + high, x.back(0), 0);
        }
        NobodysBard x = new NobodysBard();
        x.bounds(1, 1);
        x.answer(0, 9999, 9, 1, 1, HIS);
        Due.is("T4 no LINE of THE PRINT", x.back(0), 0);
        x.line(2, 0, 0, HIS);
        Due.is("T4 no SONG", x.back(0), 1);
        x.answer(0, 9999, 9, 1, 1, 0);
        Due.is("T4 no LINE", x.back(1), 0);
    }

    /** "(a FRACTION; 0 over 1 without a LINE, or where the DAY isn't above)". */
    private static void oddsThatItIs() {
        NobodysBard x = new NobodysBard();
        x.answer(0, 9999, 9, 1, 1, 0);
        x.answer(0, 5000, 9, 1, 1, HIS);
        x.answer(0, 5001, 9, 1, 1, HIS);
        odds("without a LINE", x, 0, 0, 1);
        odds("where the DAY isn't above", x, 1, 0, 1);
        odds("neither LINES of THE PRINT nor SONGS", x, 2, 0, 0);
        x.line(2, 0, 0, Due.line(99));
        odds("none of THE PRINT is LIKE it", x, 2, 0, 0);
        x.open(0, 0, 0, 0);
        x.line(0, 0, 0, HIS);
        odds("upper 0", x, 2, 0, 1);
        x.line(2, 0, 0, HIS);
        odds("by least numbers", x, 2, 1, 1);
        odds("still without a LINE", x, 0, 0, 1);
        odds("still where the DAY isn't above", x, 1, 0, 1);
        x.print(0);
        x.open(0, 0, 0, 1);
        odds("the SONG is still EARLY", x, 2, 1, 1);
        NobodysBard y = new NobodysBard();
        y.line(2, 0, 0, HIS);
        y.open(0, 0, 0, 5001);
        y.line(0, 0, 0, HIS);
        y.answer(0, 5001, 0, 1, 1, HIS);
        odds("LATE SONGS don't count", y, 0, 1, 0);
    }

    private static void odds(String name, NobodysBard x, int answer, int upper, int lower) {
        Due.is("T4 ODDS, upper: " + name, x.backOdds(answer, 0), upper);
        Due.is("T4 ODDS, lower: " + name, x.backOdds(answer, 1), lower);
    }

    /** "its greatest LIKE to LINES of THE PRINT times HOPE and 1, by its greatest LIKE to those of EARLY SONGS times 10". */
    private static void oddsByHope() {
        int[][] want = {{3, 20}, {3, 10}, {9, 20}, {3, 5}, {3, 4}, {9, 10}, {21, 20}, {6, 5}, {27, 20}, {3, 2}};
        for (int hope = 0; hope <= 9; hope++) {
            NobodysBard x = asked();
            x.line(2, 0, 1, Due.line(11));
            x.line(0, 0, 0, Due.line(1));
            x.answer(0, 9999, hope, 1, 1, Due.line(11, 12, 13, 1, 2));
            odds("HOPE " + hope, x, 0, want[hope][0], want[hope][1]);
        }
    }

    /** "PARTED ...: 10 less HOPE of all ANSWERS yes (or no) that aren't BACK, together". */
    private static void parted() {
        for (int hope = 0; hope <= 9; hope++) {
            for (int said = 0; said <= 2; said++) {
                NobodysBard x = asked();
                x.answer(0, 5000, hope, said, 2, HIS);
                x.answer(0, 5001, hope, said, 2, HIS);
                x.answer(0, 5001, hope, 2, said, OURS);
                String name = "T4 PARTED by HOPE " + hope + ", said " + said;
                Due.is(name + ", yes to the first", x.parted(0, true), said == 1 ? 10 - hope : 0);
                Due.is(name + ", no to the first", x.parted(0, false), said == 0 ? 10 - hope : 0);
                Due.is(name + ", yes to the second", x.parted(1, true), said == 1 ? 10 - hope : 0);
                Due.is(name + ", no to the second", x.parted(1, false), said == 0 ? 10 - hope : 0);
            }
        }
        NobodysBard x = new NobodysBard();
        for (int i = 0; i < 60; i++) x.answer(0, 0, 0, 1, 0, 0);
        Due.is("T4 PARTED of sixty, yes", x.parted(0, true), 600);
        Due.is("T4 PARTED of sixty, no", x.parted(1, false), 600);
        Due.is("T4 PARTED of none", x.parted(0, false), 0);
    }

    /** "MUDDLED are ANSWERS yes to the second one whose LINE is LIKE one of an EARLY SONG by HIGH or more, and none of THE PRINT so". */
    private static void muddled() {
        long mixed = Due.line(11, 12, 1, 2, 3);
        for (int high = 39; high <= 61; high++) {
            NobodysBard x = asked();
            x.bounds(high, 1);
            for (int second = 0; second <= 2; second++) {
                for (int day : new int[] {0, 5000, 5001, 9999}) x.answer(0, day, 0, 1, second, mixed);
            }
            // 60 to the SONG, 40 to THE PRINT; on any DAY; ANSWERS 4 to 7 said yes
            boolean is = high > 40 && high <= 60;
            Due.is("T4 MUDDLED by HIGH " + high, x.muddled(-1), is ? 4 : 0);
            for (int i = 0; i < 5; i++) Due.is("T4 MUDDLED " + i + " by HIGH " + high, x.muddled(i), is && i < 4 ? 4 + i : -1);
            x.open(0, 1, 0, 5001);
            x.line(0, 1, 0, HIS);
            Due.is("T4 LATE SONGS don't count, HIGH " + high, x.muddled(-1), is ? 4 : 0);
        }
        NobodysBard x = asked();
        for (int i = 0; i < 60; i++) x.answer(0, 0, 0, 0, 1, OURS);
        Due.is("T4 MUDDLED, all sixty", x.muddled(-1), 60);
        Due.is("T4 MUDDLED, the last", x.muddled(59), 59);
        Due.is("T4 MUDDLED, not so many", x.muddled(60), -1);
        NobodysBard y = new NobodysBard();
        y.answer(0, 0, 0, 1, 1, OURS);
        Due.is("T4 MUDDLED without SONGS", y.muddled(-1), 0);
        y.bounds(1, 1);
        y.answer(0, 0, 0, 1, 1, 0);
        Due.is("T4 MUDDLED without a LINE", y.muddled(-1), 0);
    }

    // ---- PAID, PAGES, FREE

    /** "PAGES of DAYS p + 1 to p + d less those of p - d to p - 1": each DAY around p, by each d. */
    private static void moreByDays() {
        for (int away = -12; away <= 12; away++) {
            NobodysBard x = new NobodysBard();
            x.paid(500, 7);
            x.pages(500 + away, 99);
            for (int d = 1; d <= 13; d++) {
                boolean in = away != 0 && Math.abs(away) <= d;
                Due.is("T4 PAGES " + away + " away, MORE by " + d, x.more(0, d), in ? away > 0 ? 99 : -99 : 0);
            }
        }
        for (int away : new int[] {-1000, -999, -998, 998, 999, 1000}) {
            NobodysBard x = new NobodysBard();
            x.paid(5000, 7);
            x.pages(5000 + away, 1);
            Due.is("T4 PAGES " + away + " away, MORE by 999", x.more(0, 999), Math.abs(away) > 999 ? 0 : away > 0 ? 1 : -1);
            Due.is("T4 PAGES " + away + " away, MORE by 998", x.more(0, 998), Math.abs(away) > 998 ? 0 : away > 0 ? 1 : -1);
        }
    }

    /** DAYS ahead of 0 and behind 9999 have no PAGES. */
    private static void moreAtTheEnds() {
        NobodysBard x = new NobodysBard();
        x.paid(0, 1);
        x.pages(0, 50);
        Due.is("T4 MORE of DAY 0, its own PAGES", x.more(0, 999), 0);
        x.pages(999, 3);
        x.pages(1000, 5);
        Due.is("T4 MORE of DAY 0", x.more(0, 999), 3);
        NobodysBard y = new NobodysBard();
        y.paid(9999, 1);
        y.pages(9999, 50);
        Due.is("T4 MORE of DAY 9999, its own PAGES", y.more(0, 999), 0);
        y.pages(9000, 3);
        y.pages(8999, 5);
        Due.is("T4 MORE of DAY 9999", y.more(0, 999), -3);
        Due.is("T4 below 0 isn't refused", Twins.refusals(y), 0);
    }

    /** "for each PAID ...: all together"; "all that was PAID". */
    private static void moreOfAll() {
        NobodysBard x = new NobodysBard();
        Due.is("T4 MORE of nothing", x.more(0, 1), 0);
        Due.is("T4 nothing was PAID", x.more(1, 0), 0);
        for (int i = 0; i < 20; i++) x.paid(100, 999);
        Due.is("T4 MORE without PAGES", x.more(0, 999), 0);
        for (int i = 0; i < 40; i++) x.pages(101, 99);
        Due.is("T4 MORE, as much as can be", x.more(0, 1), 20 * 40 * 99);
        Due.is("T4 all that was PAID, as much as can be", x.more(1, 0), 20 * 999);
        NobodysBard y = new NobodysBard();
        for (int i = 0; i < 20; i++) y.paid(102, 1);
        for (int i = 0; i < 40; i++) y.pages(101, 99);
        Due.is("T4 MORE, as little as can be", y.more(0, 1), -20 * 40 * 99);
    }

    /** "on each DAY of PAGES all PAGES up to that DAY are no more than it times FREE DAYS up to that DAY". */
    private static void rateByDays() {
        for (int pages = 1; pages <= 99; pages++) {
            for (int days = 1; days <= 4; days++) {
                NobodysBard x = new NobodysBard();
                x.free(10, 9 + days);
                x.pages(9 + days, pages);
                Due.is("T4 " + pages + " on " + days, x.rate(), (pages + days - 1) / days);
            }
        }
        NobodysBard x = new NobodysBard();
        x.free(10, 12);
        x.pages(9, 1);
        Due.is("T4 the DAY ahead of the first FREE one", x.rate(), -1);
        NobodysBard y = new NobodysBard();
        y.free(10, 12);
        y.pages(10, 2);
        Due.is("T4 the first FREE DAY", y.rate(), 2);
        y.pages(12, 7);
        Due.is("T4 all up to the last FREE DAY", y.rate(), 3);
        y.pages(9999, 1);
        Due.is("T4 long behind it", y.rate(), 4);
        y.pages(11, 7);
        Due.is("T4 on a DAY between", y.rate(), 6);
        NobodysBard z = new NobodysBard();
        z.free(10, 12);
        z.pages(12, 1);
        z.pages(12, 1);
        z.pages(12, 1);
        Due.is("T4 three of one DAY", z.rate(), 1);
        z.pages(12, 1);
        Due.is("T4 four of one DAY", z.rate(), 2);
    }

    /** "the least number of pages a day, 1 to 99"; "NONE: no such one". */
    private static void rateAtItsBounds() {
        NobodysBard x = new NobodysBard();
        x.free(0, 9999);
        x.pages(9999, 1);
        Due.is("T4 the least RATE", x.rate(), 1);
        NobodysBard y = new NobodysBard();
        y.pages(0, 99);
        Due.is("T4 no FREE DAYS", y.rate(), -1);
        y.free(0, 0);
        Due.is("T4 the greatest RATE", y.rate(), 99);
        y.pages(0, 1);
        Due.is("T4 one too many", y.rate(), -1);
        y.free(1, 1);
        Due.is("T4 FREE a DAY too late", y.rate(), -1);
        NobodysBard z = new NobodysBard();
        z.free(0, 39);
        for (int i = 0; i < 40; i++) z.pages(39, 99);
        Due.is("T4 all PAGES there can be, on forty DAYS", z.rate(), 99);
        z.free(9999, 9999);
        Due.is("T4 a FREE DAY behind them", z.rate(), 99);
    }

    /** "FREE DAYS up to that DAY (each DAY once)": spans beside, over and within one another, in any order. */
    private static void eachDayOnce() {
        int[][] spans = {{20, 29}, {25, 34}, {22, 24}, {20, 29}, {35, 35}, {37, 39}, {10, 14}, {14, 20}};
        for (int turn = 0; turn < 8; turn++) {
            NobodysBard x = new NobodysBard();
            boolean[] free = new boolean[60];
            for (int i = 0; i < 8; i++) {
                int[] span = spans[(i * 3 + turn) % 8];
                x.free(span[0], span[1]);
                for (int day = span[0]; day <= span[1]; day++) free[day] = true;
                for (int upTo : new int[] {10, 14, 20, 24, 29, 30, 35, 36, 39, 59}) {
                    int days = 0;
                    for (int day = 0; day <= upTo; day++) days += free[day] ? 1 : 0;
                    x.image(0);
                    x.pages(upTo, 90);
                    Due.is("T4 FREE DAYS up to " + upTo + ", turn " + turn + ", spans " + i, x.rate(), days == 0 ? -1 : (90 + days - 1) / days);
                    x.restore(0);
                }
            }
        }
    }

    // ---- WORLDS

    /** "COST of a set: 0 of one (or none), or if no GLEN parts it"; "FIRST ... NONE: no GLEN parts it". */
    private static void costOfSets() {
        NobodysBard x = new NobodysBard();
        Due.is("T4 COST of none, without WORLDS", x.ask(0, 0), 0);
        Due.is("T4 FIRST of none, without WORLDS", x.ask(0, 1), -1);
        for (int i = 0; i < 8; i++) x.world(99);
        for (int world = 0; world < 8; world++) {
            Due.is("T4 COST of one, " + world, x.ask(1 << world, 0), 0);
            Due.is("T4 FIRST of one, " + world, x.ask(1 << world, 1), -1);
        }
        Due.is("T4 COST of all, where all say 0", x.ask(255, 0), 0);
        Due.is("T4 FIRST of all, where all say 0", x.ask(255, 1), -1);
        for (int world = 0; world < 8; world++) x.says(world, 7, 3);
        Due.is("T4 COST of all, where all say 3", x.ask(255, 0), 0);
        Due.is("T4 FIRST of all, where all say 3", x.ask(255, 1), -1);
        x.says(7, 15, 1);
        Due.is("T4 COST where the last GLEN parts the last WORLD", x.ask(255, 0), 8 * 99);
        Due.is("T4 FIRST where the last GLEN parts the last WORLD", x.ask(255, 1), 15);
        Due.is("T4 COST without the last WORLD", x.ask(127, 0), 0);
        x.says(7, 0, 1);
        Due.is("T4 FIRST, the least of like ones", x.ask(255, 1), 0);
    }

    /** "the least, over GLENS that part it, of the weights of the set together and the COSTS of the parts". */
    private static void costByParts() {
        NobodysBard x = new NobodysBard();
        x.world(1);
        x.world(2);
        x.world(99);
        x.says(0, 0, 1);
        x.says(1, 1, 1);
        x.says(2, 2, 1);
        Due.is("T4 COST of three", x.ask(7, 0), 102 + 3);
        Due.is("T4 FIRST parts off the heaviest", x.ask(7, 1), 2);
        Due.is("T4 COST of the two heavy ones", x.ask(6, 0), 101);
        Due.is("T4 FIRST of the two heavy ones", x.ask(6, 1), 1);
        x.says(0, 3, 1);
        x.says(1, 3, 2);
        x.says(2, 3, 3);
        Due.is("T4 COST by three parts at once", x.ask(7, 0), 102);
        Due.is("T4 FIRST by three parts at once", x.ask(7, 1), 3);
        x.says(0, 15, 2);
        x.says(1, 15, 3);
        Due.is("T4 FIRST, the least GLEN with that COST", x.ask(7, 1), 3);
        Due.is("T4 what isn't in the set isn't weighed", x.ask(3, 0), 3);
        Due.is("T4 what isn't in the set isn't parted", x.ask(3, 1), 0);
    }

    /** All eight WORLDS, each parted from the others one by one: COST is the sum that is left each time, the heaviest first. */
    private static void eightWorlds() {
        NobodysBard x = new NobodysBard();
        int[] weights = {99, 1, 50, 7, 98, 2, 60, 30};
        for (int weight : weights) x.world(weight);
        for (int world = 0; world < 8; world++) x.says(world, 15 - world, 1 + world % 3);
        int[] byWeight = {0, 4, 6, 2, 7, 3, 5, 1};
        int set = 255;
        int together = 347;
        int cost = 0;
        int[] costs = new int[7];
        for (int i = 0; i < 7; i++) {
            costs[i] = together;
            together -= weights[byWeight[i]];
        }
        for (int i = 6; i >= 0; i--) {
            cost += costs[i];
            costs[i] = cost;
        }
        for (int i = 0; i < 7; i++) {
            Due.is("T4 COST of " + (8 - i), x.ask(set, 0), costs[i]);
            int first = 15 - byWeight[i];
            // of two WORLDS either of their GLENS parts them
            if (i == 6) first = Math.min(first, 15 - byWeight[7]);
            Due.is("T4 FIRST of " + (8 - i), x.ask(set, 1), first);
            set &= ~(1 << byWeight[i]);
        }
        Due.is("T4 COST of the last one", x.ask(set, 0), 0);
    }

    /** "what each GLEN would say in it (0 to 3; 0 at first)". */
    private static void says() {
        NobodysBard x = new NobodysBard();
        for (int world = 0; world < 8; world++) {
            x.world(1);
            for (int glen = 0; glen < 16; glen++) Due.is("T4 says at first", x.says(world, glen, (world + glen) % 4), 0);
        }
        for (int world = 0; world < 8; world++) {
            for (int glen = 0; glen < 16; glen++) Due.is("T4 says then", x.says(world, glen, 3), (world + glen) % 4);
        }
    }

    // ---- ROWS, IMAGES

    /** "numbers of 8 bits (sort 0), 16 (1), 32 (2), 64 (3)": v is cut to them; what is above them doesn't count. */
    private static void rowsOfEachSort() {
        for (int row = 0; row < 4; row++) {
            for (int sort = 0; sort < 4; sort++) {
                NobodysBard x = new NobodysBard();
                x.row(row, sort, 60);
                int bits = 8 << sort;
                for (int bit = 0; bit < 64; bit++) {
                    long want = bit >= bits ? 0 : bit == bits - 1 ? -1L << bit : 1L << bit;
                    Due.is("T4 bit " + bit + " of " + bits, x.write(row, bit % 60, 1L << bit), want);
                }
                Due.is("T4 all bits of " + bits, x.write(row, 0, -1L), -1);
                Due.is("T4 0 of " + bits, x.write(row, 59, 0), 0);
                Due.is("T4 the greatest of " + bits, x.write(row, 59, Long.MAX_VALUE >>> 64 - bits), Long.MAX_VALUE >>> 64 - bits);
                if (bits < 64) Due.is("T4 wraps around, of " + bits, x.write(row, 59, (1L << bits) + 5), 5);
            }
        }
    }

    /** "ROWS 0 to 3 are MISSING at first, or have 0 to 60 numbers", "all 0 (in place of another one)". */
    private static void rowsOfEachLength() {
        for (int n = 0; n <= 60; n++) {
            NobodysBard x = new NobodysBard();
            x.row(2, 3, 60);
            for (int i = 0; i < 60; i++) x.write(2, i, 1);
            Due.is("T4 " + n + " numbers", x.row(2, 0, n), 0);
            if (n > 0) Due.is("T4 the last of " + n, x.write(2, n - 1, 0), 0);
            Due.is("T4 behind the last of " + n, x.write(2, n, 0), -7);
            if (n % 5 != 0) continue;
            Due.is("T4 all 0 of " + n, x.minister(2), n / 5);
            Due.is("T4 all 0 of " + n, x.glen(0, 0), n / 5);
            Due.is("T4 all 0 of " + n, x.parted(0, false), 2 * n);
            x.row(2, 3, 60);
            Due.is("T4 all 0 of sixty again", x.minister(2), 12);
            Due.is("T4 all 0 of sixty again", x.glen(0, 0), n / 5 + 12 > 60 ? n / 5 : n / 5 + 12);
        }
    }

    /** A ROW in place of another one is all 0; the other ROWS stay as they are. */
    private static void eachRowByItself() {
        for (int row = 0; row < 4; row++) {
            NobodysBard x = new NobodysBard();
            for (int k = 0; k < 4; k++) {
                x.row(k, 3, 60);
                for (int i = 0; i < 60; i += 5) x.write(k, i, 1 + k);
            }
            x.row(row, 3, 60);
            for (int k = 0; k < 4; k++) {
                Due.is("T4 twelve of ROW " + k, x.minister(k), 12);
                Due.is("T4 ROW " + k + " where " + row + " is all 0", x.glen(k == row ? 0 : 1 + k, 0), 12);
            }
        }
    }

    /** "five by five, are ANSWERS more (GLEN, DAY, HOPE, first, second, no LINE)": each number in its place, of all twelve. */
    private static void ministersNumbers() {
        NobodysBard x = new NobodysBard();
        x.line(2, 0, 0, OURS);
        x.answer(14, 9999, 9, 2, 2, OURS);
        x.row(0, 1, 60);
        for (int k = 0; k < 12; k++) {
            int[] numbers = {k, 5001 + k, k % 10, k % 3, (k + 1) % 3};
            for (int i = 0; i < 5; i++) x.write(0, 5 * k + i, numbers[i]);
        }
        Due.is("T4 twelve", x.minister(0), 12);
        int[][] parted = new int[2][2];
        for (int k = 0; k < 12; k++) {
            Due.is("T4 GLEN of " + k, x.glen(k, 0), 1);
            Due.is("T4 first of " + k, x.glen(k, 1), k % 3 == 1 ? 1 : 0);
            Due.is("T4 second of " + k, x.glen(k, 2), (k + 1) % 3 == 1 ? 1 : 0);
            Due.is("T4 no LINE: not BACK, " + k, x.glen(k, 3), 0);
            Due.is("T4 no LINE: ODDS, " + k, x.backOdds(1 + k, 0) * 10 + x.backOdds(1 + k, 1), 1);
            if (k % 3 < 2) parted[0][k % 3] += 10 - k % 10;
            if ((k + 1) % 3 < 2) parted[1][(k + 1) % 3] += 10 - k % 10;
        }
        for (int question = 0; question < 2; question++) {
            Due.is("T4 HOPES of no to " + question, x.parted(question, false), parted[question][0]);
            Due.is("T4 HOPES of yes to " + question, x.parted(question, true), parted[question][1]);
        }
        Due.is("T4 they came behind the others", x.back(0), 1);
        Due.is("T4 the last", x.back(12), 0);
        Due.is("T4 behind the last", x.back(13), -2);
    }

    /** 43: "0 nobody came to see (there are neither EARLY SONGS nor BOOKS)", "5 ... one of a LATE SONG is LIKE it by HIGH or more". */
    private static void saysOfALine() {
        for (int high = 59; high <= 61; high++) {
            NobodysBard x = new NobodysBard();
            x.bounds(high, 1);
            x.line(2, 0, 0, OURS);
            x.open(0, 0, 0, 9999);
            x.line(0, 0, 0, Due.line(1, 2, 3, 98, 99));
            Due.is("43 LATE SONGS alone, HIGH " + high, x.say(0), 0);
            x.open(0, 0, 0, 5000);
            Due.is("43 by HIGH " + high, x.say(0), high <= 60 ? 5 : 6);
        }
        NobodysBard x = new NobodysBard();
        x.line(2, 0, 0, OURS);
        for (int i = 0; i < 39; i++) x.open(0, 0, 0, 5001);
        Due.is("43 thirty-nine LATE SONGS", x.say(0), 0);
        x.open(0, 0, 0, 5000);
        Due.is("43 the last SONG is EARLY", x.say(0), 6);
        x.print(4999);
        Due.is("43 it isn't any more", x.say(0), 0);
        x.open(1, 0, 0, 0);
        Due.is("43 a BOOK without LINES", x.say(0), 6);
    }

    /** 39: what was asked before doesn't count, when a GLEN says another thing, or a WORLD is more. */
    private static void askedAgain() {
        NobodysBard x = new NobodysBard();
        x.world(5);
        x.world(7);
        x.says(1, 3, 2);
        Due.is("39 parted", x.ask(3, 0), 12);
        Due.is("39 parted", x.ask(3, 1), 3);
        x.says(0, 3, 2);
        Due.is("39 not parted any more", x.ask(3, 0), 0);
        Due.is("39 not parted any more", x.ask(3, 1), -1);
        x.world(9);
        Due.is("39 another one says 0", x.ask(7, 0), 21);
        Due.is("39 the first two aren't parted", x.ask(3, 0), 0);
        x.image(0);
        x.says(0, 1, 1);
        Due.is("39 all three", x.ask(7, 0), 21 + 12);
        x.restore(0);
        Due.is("39 as it was", x.ask(7, 0), 21);
        Due.is("39 as it was", x.ask(7, 1), 3);
    }

    /** Each thing that is in an IMAGE and can be overwritten where it stands. */
    private static void imagesHoldEach() {
        NobodysBard x = new NobodysBard();
        x.image(0);
        for (int song = 0; song < 40; song++) x.open(0, 5, 0, 0);
        x.line(0, 39, 0, Due.line(60));
        x.line(2, 0, 5, Due.line(61));
        x.line(2, 0, 4, Due.line(60));
        Due.text(x, 0, "60 become 61;");
        x.image(1);
        Due.is("T4 SMOOTHED of the last SONG", x.whose(0, 1), 3900);
        Due.is("T4 MOVED", x.whose(1, 0), 1);
        x.restore(0);
        for (int song = 0; song < 40; song++) x.open(0, 5, 0, 0);
        x.line(0, 39, 0, Due.line(70));
        x.line(2, 0, 5, Due.line(70));
        x.line(2, 0, 5, Due.line(60));
        Due.is("T4 HAD", x.whose(0, 0), 0);
        x.restore(1);
        Due.is("T4 SMOOTHED of the last SONG as it was", x.whose(0, 0), 2);
        Due.is("T4 from the last SONG as it was", x.whose(0, 1), 3900);
        Due.is("T4 of another TALE as it was", x.whose(1, 0), 1);
        NobodysBard y = new NobodysBard();
        y.open(0, 0, 0, 0);
        y.line(0, 0, 0, OURS);
        y.line(2, 0, 0, Due.line(1, 2, 97, 98, 99));
        y.bounds(90, 40);
        y.image(0);
        Due.is("T4 by LOW", y.whose(0, 0), 4);
        y.bounds(90, 41);
        Due.is("T4 below LOW", y.whose(0, 0), 5);
        y.restore(0);
        Due.is("T4 LOW as it was", y.whose(0, 0), 4);
        y.bounds(40, 40);
        Due.is("T4 by HIGH", y.whose(0, 0), 0);
        y.restore(0);
        Due.is("T4 HIGH as it was", y.whose(0, 0), 4);
    }

    /** "IMAGES 0 to 1: all but THE TAPE, the FAULT, ROWS and what was refused, as it was (none at first)". */
    private static void imagesHoldAllBut() {
        for (int i = 0; i < 2; i++) {
            NobodysBard x = new NobodysBard();
            Due.is("T4 none at first", x.restore(i), -5);
            Due.feed(x, "1 become 2;");
            Due.is("T4 IMAGE " + i, x.image(i), 0);
            Due.feed(x, "3 become 4;");
            x.row(1, 0, 5);
            x.write(1, 0, 9);
            Due.is("T4 restored " + i, x.restore(i), 0);
            Due.is("T4 THE TAPE isn't in IMAGE " + i, x.count(11), 40);
            Due.is("T4 ROWS aren't in IMAGE " + i, x.minister(1), 1);
            Due.is("T4 ROWS aren't in IMAGE " + i, x.glen(9, 0), 1);
            Due.is("T4 what was refused isn't in IMAGE " + i, x.status(5), 1);
            Due.text(x, 0, "?");
            x.image(i);
            Due.is("T4 a text behind it", Due.text(x, 0, "1 become 2;"), 1);
            x.restore(i);
            Due.is("T4 the FAULT isn't in IMAGE " + i, x.fault(0), 0);
            Due.is("T4 its place isn't in IMAGE " + i, x.fault(1), -1);
            Due.is("T4 the RULES are in IMAGE " + i, x.count(9), 0);
            x.restore(i);
            Due.is("T4 restored as often as one likes: " + i, x.restore(i), 0);
            Due.is("T4 the other one isn't made by it: " + i, x.restore(1 - i), -5);
        }
    }

    /** An IMAGE of as many as can be, and one of none, in place of one another. */
    private static void imagesBeyondTheBounds() {
        NobodysBard x = Twins.full();
        x.image(0);
        int[] full = new int[13];
        for (int what = 0; what <= 12; what++) full[what] = x.count(what);
        x.restore(1);
        for (int what = 0; what <= 10; what++) Due.is("T4 none, count(" + what + ")", x.count(what), 0);
        Due.is("T4 THE TAPE stays full", x.count(11), 400);
        Due.is("T4 DAY at first", x.count(12), 5000);
        Due.is("T4 SONG 39 isn't there", x.count(139), -1);
        Due.is("T4 there is room again", x.open(0, 0, 0, 0), 0);
        Due.is("T4 its LINES are none", x.count(100), 0);
        Due.is("T4 there is room again", x.answer(0, 0, 0, 0, 0, 0), 0);
        x.restore(0);
        for (int what = 0; what <= 12; what++) Due.is("T4 full, count(" + what + ")", x.count(what), full[what]);
        Due.is("T4 SONG 0", x.count(100), 12);
        Due.is("T4 SONG 39", x.count(139), 0);
        Due.is("T4 there is no room", x.open(0, 0, 0, 0), -4);
        Due.is("T4 there is no room", x.line(2, 0, 0, 1L << 56), -4);
        Due.is("T4 there is no room", x.free(0, 0), -4);
    }

    /** "The k-th, the i-th of whatever: from 0 on". */
    private static void fromZeroOn() {
        NobodysBard x = asked();
        Due.is("T4 SONGS from 0 on", x.open(0, 0, 0, 0), 1);
        Due.is("T4 BOOKS from 0 on", x.open(1, 0, 0, 0), 0);
        Due.is("T4 LINES from 0 on", x.line(1, 0, 0, HIS), 0);
        Due.is("T4 VERSIONS from 0 on", x.version(HIS, HIS, 0, 0), 0);
        Due.is("T4 ANSWERS from 0 on", x.answer(0, 0, 0, 1, 1, OURS), 0);
        Due.is("T4 WORLDS from 0 on", x.world(1), 0);
        Due.is("T4 MUDDLED from 0 on", x.muddled(0), 0);
        Due.is("T4 ADDED from 0 on", x.added(0, 0, 0), 0);
        Due.is("T4 PAID: how many", x.paid(0, 1), 1);
        Due.is("T4 PAGES: how many", x.pages(0, 1), 1);
        Due.is("T4 FREE: how many", x.free(0, 0), 1);
        x.row(0, 0, 1);
        Due.is("T4 numbers from 0 on", x.write(0, 0, 1), 1);
    }
}
