import java.util.function.Supplier;

/**
 * "Refused calls answer by a code and change nothing but how many were refused so ... (of several codes that which the
 * call tells first)": each code of each promise (its number stands ahead) with a twin that wasn't asked so, each two
 * codes that can be due at once, and each "as many as can be" at the last one and behind it. Numbers out of their bounds
 * are in BoundsTest.
 */
public final class RefusedTest {
    private static final long ONE = Due.line(1);
    private static final String FASHION = "9 become 8 if tale 1 or long 4;7 7 become 6;";
    private static final String LAW = "lose 30;smooth 50;move 40;say 5 for 4;";

    public static void main(String[] args) {
        asManyAsCanBe();
        full();
        fullTape();
        fullByMinister();
        notNow();
        missingAndTooSoon();
        severalInLines();
        severalInTexts();
        severalInWhose();
        severalInAnswers();
        severalInRows();
        faults();
        counted();
        Due.end("RefusedTest");
    }

    private static void some(String name, int code, Twins.Call call) {
        Twins.refused(name, Twins::some, call, code);
    }

    private static void full(String name, int code, Twins.Call call) {
        Twins.refused(name, Twins::full, call, code);
    }

    private static void fresh(String name, int code, Twins.Call call) {
        Twins.refused(name, NobodysBard::new, call, code);
    }

    private static void made(String name, Supplier<NobodysBard> made, int code, Twins.Call call) {
        Twins.refused(name, made, call, code);
    }

    /** The last that can be is taken, the next one is refused, and again so; first is what the first call answers. */
    private static void most(String name, NobodysBard x, int many, int first, Twins.Call call) {
        for (int i = 0; i < many; i++) Due.is(name + ", call " + i, call.on(x), first + i);
        Due.is(name + ", one too many", call.on(x), -4);
        Due.is(name + ", one too many again", call.on(x), -4);
        Due.is(name + ", refused", x.status(4), 2);
        Due.is(name + ", refused in all", Twins.refusals(x), 2);
    }

    private static NobodysBard begun() {
        NobodysBard x = new NobodysBard();
        x.open(0, 0, 0, 0);
        x.open(1, 0, 0, 0);
        return x;
    }

    private static void asManyAsCanBe() {
        most("2 SONGS, at most 40", new NobodysBard(), 40, 0, x -> x.open(0, 0, 0, 0));
        most("2 BOOKS, at most 12", new NobodysBard(), 12, 0, x -> x.open(1, 0, 0, 0));
        most("3 at most 12 LINES of a SONG", begun(), 12, 0, x -> x.line(0, 0, 0, ONE));
        most("3 at most 12 LINES of a BOOK", begun(), 12, 0, x -> x.line(1, 0, 0, ONE));
        most("3 at most 60 LINES of THE PRINT", begun(), 60, 0, x -> x.line(2, 0, 0, ONE));
        NobodysBard one = begun();
        one.line(0, 0, 0, ONE);
        most("12 SONGS TOLD ON are SONGS, at most 40", one, 39, 1, x -> x.told(0, 0, 0, 0));
        most("24 VERSIONS, at most 20", new NobodysBard(), 20, 0, x -> x.version(ONE, ONE, 0, 0));
        most("26 ANSWERS, at most 60", new NobodysBard(), 60, 0, x -> x.answer(0, 0, 0, 0, 0, 0));
        most("32 PAID, at most 20", new NobodysBard(), 20, 1, x -> x.paid(0, 1));
        most("33 PAGES, at most 40", new NobodysBard(), 40, 1, x -> x.pages(0, 1));
        most("35 FREE, at most 8", new NobodysBard(), 8, 1, x -> x.free(0, 0));
        most("37 WORLDS, at most 8", new NobodysBard(), 8, 0, x -> x.world(1));
        NobodysBard tape = new NobodysBard();
        most("8 THE TAPE, at most 400", tape, 20, 1, x -> {
            int got = x.feed(0, 0, 0, 0, 0);
            return got > 0 && got % 20 == 0 ? got / 20 : got;
        });
        // One that is full doesn't keep the others from their LINES.
        NobodysBard x = begun();
        x.open(0, 0, 0, 0);
        x.open(1, 0, 0, 0);
        for (int i = 0; i < 13; i++) {
            x.line(0, 0, 0, ONE);
            x.line(1, 0, 0, ONE);
        }
        Due.is("3 a full SONG beside another", x.line(0, 1, 0, ONE), 0);
        Due.is("3 a full BOOK beside another", x.line(1, 1, 0, ONE), 0);
        Due.is("3 a full SONG beside THE PRINT", x.line(2, 0, 0, ONE), 0);
        Due.is("2 SONGS and BOOKS aren't counted together", x.open(0, 0, 0, 0), 2);
    }

    private static void full() {
        full("2 SONGS", -4, x -> x.open(0, 0, 0, 0));
        full("2 BOOKS", -4, x -> x.open(1, 0, 0, 0));
        full("3 LINES of a SONG", -4, x -> x.line(0, 0, 0, ONE));
        full("3 LINES of a BOOK", -4, x -> x.line(1, 0, 0, ONE));
        full("3 LINES of THE PRINT", -4, x -> x.line(2, 0, 0, ONE));
        full("8 THE TAPE", -4, x -> x.feed(1, 2, 3, 4, 5));
        full("12 SONGS", -4, x -> x.told(0, 0, 0, 0));
        full("24 VERSIONS", -4, x -> x.version(ONE, ONE, 0, 0));
        full("26 ANSWERS", -4, x -> x.answer(0, 0, 0, 0, 0, 0));
        full("26 ANSWERS with a LINE", -4, x -> x.answer(0, 0, 0, 0, 0, ONE));
        full("32 PAID", -4, x -> x.paid(0, 1));
        full("33 PAGES", -4, x -> x.pages(0, 1));
        full("35 FREE", -4, x -> x.free(0, 0));
        full("37 WORLDS", -4, x -> x.world(1));
        full("42 ANSWERS", -4, x -> x.minister(0));
    }

    /** "it would have more than 400": 400 is still taken; what is refused isn't fed in part. */
    private static void fullTape() {
        NobodysBard x = new NobodysBard();
        for (int i = 1; i < 20; i++) x.feed(0x20202020, 0x20202020, 0x20202020, 0x20202020, 0x20202020);
        Due.is("8 380 and 20", x.feed(0x20202020, 0x31206265, 0x636f6d65, 0x20323535, 0x2020203b), 400);
        Due.is("8 400 and 20", x.feed(0x78787878, 0x78787878, 0x78787878, 0x78787878, 0x78787878), -4);
        Due.is("8 still 400", x.count(11), 400);
        Due.is("9 all 400 bytes", x.text(0, 400), 1);
        Due.is("9 to the last byte", x.smoothed(ONE, 0), Due.line(255));
        Due.is("8 empty then", x.feed(0x20202020, 0x20202020, 0x20202020, 0x20202020, 0x20202020), 20);
    }

    /** "there would be too many": the last that can be come, one more doesn't, and none of those it would come with. */
    private static void fullByMinister() {
        NobodysBard x = new NobodysBard();
        for (int i = 0; i < 58; i++) x.answer(1, 0, 0, 0, 0, 0);
        x.row(0, 0, 15);
        Due.is("42 58 and three", x.minister(0), -4);
        Due.is("42 none of the three", x.count(3), 58);
        x.row(0, 0, 10);
        Due.is("42 58 and two", x.minister(0), 2);
        Due.is("42 sixty", x.count(3), 60);
        x.row(0, 0, 5);
        Due.is("42 sixty and one", x.minister(0), -4);
        x.row(0, 0, 0);
        Due.is("42 sixty and none", x.minister(0), 0);
        Due.is("42 refused", x.status(4), 2);
        made("42 59 and two", RefusedTest::fiftyNine, -4, y -> y.minister(0));
    }

    private static NobodysBard fiftyNine() {
        NobodysBard x = Twins.some();
        for (int i = 5; i < 59; i++) x.answer(1, 0, 0, 0, 0, 0);
        return x;
    }

    // ---- -5, -6, -7

    private static NobodysBard onePrinted() {
        NobodysBard x = new NobodysBard();
        x.line(2, 0, 0, ONE);
        return x;
    }

    private static void notNow() {
        some("12 no LINE of a SONG is left", -5, x -> x.told(0, 0, 0, seedThatLosesAll(0)));
        some("12 no LINE of another one is left", -5, x -> x.told(1, 0, 0, seedThatLosesAll(1)));
        made("12 a SONG without LINES", RefusedTest::begun, -5, x -> x.told(0, 0, 0, 1));
        some("14 the SONG is EARLY", -5, x -> x.late(0, 0));
        made("14 EARLY on THE PRINT's DAY", RefusedTest::onThatDay, -5, x -> x.late(0, 0));
        for (int kind = 0; kind < 6; kind++) {
            int itsKind = kind;
            fresh("15 no LINES, kind " + kind, -5, x -> x.share(itsKind, 0));
            fresh("15 no LINES, kind " + kind, -5, x -> x.share(itsKind, 1));
        }
        fresh("16 no LINES", -5, x -> x.span(0));
        fresh("16 no LINES", -5, x -> x.span(1));
        for (int part = 0; part < 3; part++) {
            int itsPart = part;
            fresh("20 no BOOKS", -5, x -> x.most(50, itsPart));
            made("20 no BOOKS, but a LINE", RefusedTest::onePrinted, -5, x -> x.most(1, itsPart));
        }
        fresh("36 no PAGES", -5, x -> x.rate());
        fresh("45 none was made", -5, x -> x.restore(0));
        fresh("45 none was made", -5, x -> x.restore(1));
        made("45 only the other one was made", RefusedTest::oneImage, -5, x -> x.restore(1));
        NobodysBard y = begun();
        Due.is("20 a BOOK without LINES, THE PRINT without LINES", y.most(1, 2), 0);
        y.free(0, 9999);
        Due.is("36 FREE without PAGES", y.rate(), -5);
    }

    /** The LAW of Twins.some() loses by 30; the SONGS have three LINES. */
    private static int seedThatLosesAll(int from) {
        for (int seed = from; seed < 1_000_000; seed++) {
            int x = seed;
            int lost = 0;
            for (int i = 0; i < 3; i++) {
                x = 1103515245 * x + 12345;
                if ((x >>> 16) % 100 < 30) lost++;
            }
            if (lost == 3) return seed;
        }
        return 0;
    }

    private static NobodysBard onThatDay() {
        NobodysBard x = new NobodysBard();
        x.open(0, 0, 0, 5000);
        x.line(0, 0, 0, ONE);
        return x;
    }

    private static NobodysBard oneImage() {
        NobodysBard x = onePrinted();
        x.image(0);
        return x;
    }

    private static void missingAndTooSoon() {
        for (int row = 0; row < 4; row++) {
            int itsRow = row;
            fresh("41 MISSING at first: " + row, -6, x -> x.write(itsRow, 0, 0));
            fresh("42 MISSING at first: " + row, -6, x -> x.minister(itsRow));
        }
        some("41 MISSING", -6, x -> x.write(3, 0, 0));
        some("42 MISSING", -6, x -> x.minister(3));
        some("41 behind the last number", -7, x -> x.write(0, 10, 1));
        some("41 ahead of the first number", -7, x -> x.write(0, -1, 1));
        some("41 behind the last number of seven", -7, x -> x.write(2, 7, 1));
        some("42 ends within one: 7", -7, x -> x.minister(2));
        for (int n = 0; n <= 60; n++) {
            int numbers = n;
            Supplier<NobodysBard> made = () -> {
                NobodysBard x = new NobodysBard();
                x.row(1, 2, numbers);
                return x;
            };
            made("41 behind the last of " + n, made, -7, x -> x.write(1, numbers, 5));
            if (n % 5 != 0) made("42 ends within one: " + n, made, -7, x -> x.minister(1));
            else Due.is("42 five by five of " + n, made.get().minister(1), n / 5);
        }
    }

    // ---- of several codes that which the call tells first

    private static void severalInLines() {
        full("2 -2 before -3", -2, x -> x.open(2, -1, -1, -1));
        full("2 -2 before -4", -2, x -> x.open(-1, 0, 0, 0));
        full("2 -3 before -4: TALE", -3, x -> x.open(0, 10, 0, 0));
        full("2 -3 before -4: GLEN", -3, x -> x.open(0, 0, 16, 0));
        full("2 -3 before -4: DAY", -3, x -> x.open(0, 0, 0, 10000));
        full("2 -3 before -4: LAND", -3, x -> x.open(1, 6, 0, 0));
        full("3 -2 before -3 and -4", -2, x -> x.line(3, 0, 10, 0));
        full("3 -2 before -3: SONG", -2, x -> x.line(0, 40, 10, 0));
        full("3 -2 before -3: BOOK", -2, x -> x.line(1, 12, 10, 0));
        full("3 -3 before -4: SONG", -3, x -> x.line(0, 0, 0, 0));
        full("3 -3 before -4: BOOK", -3, x -> x.line(1, 0, 0, 0));
        full("3 -3 before -4: THE PRINT's TALE", -3, x -> x.line(2, 0, 10, ONE));
        full("3 -3 before -4: THE PRINT's WORDS", -3, x -> x.line(2, 0, 0, 0));
        some("3 -3, twice over", -3, x -> x.line(2, 0, 10, 0));
        some("5 -3, twice over", -3, x -> x.bounds(101, 102));
        some("5 -3: HIGH and LOW below 1", -3, x -> x.bounds(0, 0));
    }

    private static void severalInTexts() {
        some("9 -2 before -3", -2, x -> x.text(2, -1));
        some("9 -2 before -3", -2, x -> x.text(-1, 41));
        some("9 -3 before a FAULT", -3, x -> x.text(1, 41));
        some("11 -3, twice over", -3, x -> x.smoothed(0, 10));
        full("12 -2 before -3 and -4", -2, x -> x.told(40, 16, 0, 0));
        full("12 -2 before -4", -2, x -> x.told(-1, 0, 0, 0));
        full("12 -3 before -4: GLEN", -3, x -> x.told(0, 16, 0, 0));
        full("12 -3 before -4: DAY", -3, x -> x.told(0, 0, 10000, 0));
        full("12 -3 before -5: GLEN", -3, x -> x.told(2, -1, 0, 0));
        full("12 -4 before -5", -4, x -> x.told(2, 0, 0, 0));
        made("12 -2 before -5", RefusedTest::begun, -2, x -> x.told(1, 0, 0, 0));
        made("12 -3 before -5: DAY", RefusedTest::begun, -3, x -> x.told(0, 0, -1, 0));
    }

    private static void severalInWhose() {
        some("14 -2 before -5: LINE", -2, x -> x.late(0, 3));
        some("14 -2 before -5: LINE", -2, x -> x.late(0, -1));
        fresh("15 -2 before -5: kind", -2, x -> x.share(6, 0));
        fresh("15 -2 before -5: what", -2, x -> x.share(0, 2));
        fresh("16 -2 before -5", -2, x -> x.span(2));
        some("17 -2 before -3", -2, x -> x.chance(0, 2));
        some("18 -2 before -3", -2, x -> x.odds(101, -1));
        some("19 -2 before -3", -2, x -> x.matches(3, 0));
        fresh("20 -2 before -3 and -5", -2, x -> x.most(0, 3));
        fresh("20 -2 before -5", -2, x -> x.most(50, -1));
        fresh("20 -3 before -5", -3, x -> x.most(0, 0));
        some("20 -2 before -3", -2, x -> x.most(101, 3));
        some("21 -2 before -3", -2, x -> x.adds(3, 10));
        some("22 -2 before -3", -2, x -> x.added(-1, 10, 0));
        some("22 -3 where there aren't so many", -3, x -> x.added(0, 10, 60));
        some("23 -2 before -3", -2, x -> x.year(0, 10000));
        some("23 -2 before -3", -2, x -> x.year(256, -1));
        full("24 -3 before -4: DAY", -3, x -> x.version(ONE, ONE, 10000, 0));
        full("24 -3 before -4: TALE", -3, x -> x.version(ONE, ONE, 0, 10));
        full("24 -3 before -4: no WORDS", -3, x -> x.version(ONE, 0, 0, 0));
        full("24 -3 before -4: no WORDS", -3, x -> x.version(0, ONE, 0, 0));
    }

    private static void severalInAnswers() {
        full("26 -3 before -4: GLEN", -3, x -> x.answer(16, 0, 0, 0, 0, 0));
        full("26 -3 before -4: DAY", -3, x -> x.answer(0, -1, 0, 0, 0, 0));
        full("26 -3 before -4: HOPE", -3, x -> x.answer(0, 0, 10, 0, 0, 0));
        full("26 -3 before -4: first", -3, x -> x.answer(0, 0, 0, 3, 0, 0));
        full("26 -3 before -4: second", -3, x -> x.answer(0, 0, 0, 0, -1, 0));
        full("26 -3 before -4: no WORDS", -3, x -> x.answer(0, 0, 0, 0, 0, 1));
        full("32 -3 before -4: DAY", -3, x -> x.paid(10000, 1));
        full("32 -3 before -4: sum", -3, x -> x.paid(0, 1000));
        full("33 -3 before -4: DAY", -3, x -> x.pages(-1, 1));
        full("33 -3 before -4: how many", -3, x -> x.pages(0, 100));
        some("34 -2 before -3", -2, x -> x.more(2, 0));
        full("35 -3 before -4: DAY", -3, x -> x.free(0, 10000));
        full("35 -3 before -4: from above to", -3, x -> x.free(2, 1));
        full("37 -3 before -4", -3, x -> x.world(0));
        some("38 -2 before -3: WORLD", -2, x -> x.says(3, 0, 4));
        some("38 -2 before -3: GLEN", -2, x -> x.says(0, 16, 4));
        some("39 -2, twice over", -2, x -> x.ask(8, 2));
    }

    private static void severalInRows() {
        some("40 -2 before -3: ROW", -2, x -> x.row(4, 0, 61));
        some("40 -2 before -3: sort", -2, x -> x.row(0, 4, -1));
        some("41 -2 before -6 and -7", -2, x -> x.write(4, -1, 0));
        some("41 -6 before -7", -6, x -> x.write(3, -1, 0));
        some("41 -6 before -7", -6, x -> x.write(3, 60, 0));
        some("42 -2 before -6", -2, x -> x.minister(4));
        made("42 -6 before -4", RefusedTest::fullOfAnswers, -6, x -> x.minister(3));
        made("42 -7 before -4", RefusedTest::fullOfAnswers, -7, x -> x.minister(2));
        made("42 -3 before -4", RefusedTest::fullOfAnswers, -3, x -> x.minister(1));
        made("42 -7 before -3", RefusedTest::wrongAndTooShort, -7, x -> x.minister(0));
        fresh("45 -2 before -5", -2, x -> x.restore(2));
    }

    /** ROW 3 is MISSING, ROW 2 ends within an ANSWER, ROW 1 has a number that can't be. */
    private static NobodysBard fullOfAnswers() {
        NobodysBard x = Twins.some();
        for (int i = 5; i < 60; i++) x.answer(1, 0, 0, 0, 0, 0);
        x.write(1, 0, 16);
        return x;
    }

    private static NobodysBard wrongAndTooShort() {
        NobodysBard x = new NobodysBard();
        x.row(0, 3, 9);
        x.write(0, 0, -1);
        x.write(0, 8, 10000);
        return x;
    }

    // ---- FAULTS

    private static NobodysBard reading() {
        NobodysBard x = Twins.some();
        x.text(0, 0);
        Due.text(x, 0, FASHION);
        Due.text(x, 1, LAW);
        return x;
    }

    /** FASHION and LAW that there were stay; the twin reads once more what it had, so that THE TAPE is empty there, too. */
    private static void fault(int what, String text, int kind, int place) {
        NobodysBard had = reading();
        Due.is("9 " + text, Due.text(had, what, text), -10 - kind);
        Due.is("9 THE TAPE is empty behind " + text, had.count(11), 0);
        Due.is("10 FAULT of " + text, had.fault(0), kind);
        Due.is("10 place in " + text, had.fault(1), place);
        NobodysBard hadNot = reading();
        Due.text(hadNot, what, what == 0 ? FASHION : LAW);
        Twins.changedNothing("9 " + text, had, hadNot, -10 - kind);
    }

    private static void faults() {
        fault(0, "1 become 2;7 become 9!", 1, 21);
        fault(0, "1 become 2;7 become", 2, 19);
        fault(0, "1 become 2;7 become 256;", 3, 20);
        fault(0, "1 become 2;7 become 1 2 3 4 5;", 4, 28);
        fault(0, "1 become 2;7 become 9 if not not not not not not not not not has 1;", 5, 57);
        fault(0, "1 become 2 if has 1 and not (tale 1);7 become 9 if (has 1;", 2, 57);
        fault(1, "lose 1;move 2;smooth 3;say 1 for 2;A", 1, 35);
        fault(1, "lose 1;move 2;smooth 3;say 1 for 2;say", 2, 38);
        fault(1, "lose 1;move 2;smooth 3;say 1 for 2;lose 100;", 3, 40);
        fault(1, "lose 1;move 2;smooth 3;say 1 for 2;" + "move 3;".repeat(9), 4, 91);
    }

    private static void counted() {
        NobodysBard x = new NobodysBard();
        for (int i = 0; i < 300; i++) x.open(2, 0, 0, 0);
        Due.is("46 three hundred", x.status(2), 300);
        String[] faulty = {"?", "1", "0", "1 2 3 4 5", "1 become 2 if " + "(".repeat(9)};
        for (String text : faulty) Due.text(x, 0, text);
        Due.text(x, 1, "lose 100");
        Due.is("46 FAULTS of all kinds count as 1", x.status(1), 6);
        x.rate();
        x.write(0, 0, 0);
        x.row(0, 0, 0);
        x.write(0, 0, 0);
        x.bounds(0, 0);
        for (int i = 0; i < 9; i++) x.free(1, 1);
        int[] want = {6, 300, 1, 1, 1, 1, 1};
        for (int what = 1; what <= 7; what++) Due.is("46 status(" + what + ")", x.status(what), want[what - 1]);
        // What is answered by NONE, or is below 0, isn't refused.
        x = new NobodysBard();
        x.paid(10, 1);
        x.pages(9, 3);
        Due.is("34 below 0 like a code", x.more(0, 1), -3);
        Due.is("36 no such one", x.rate(), -1);
        x.row(0, 0, 1);
        Due.is("41 below 0 like a code", x.write(0, 0, -7), -7);
        Due.is("30 not so many", x.muddled(0), -1);
        Due.is("39 no GLEN parts it", x.ask(0, 1), -1);
        Due.is("10 NONE", x.fault(1), -1);
        Due.is("46 none of them refused", Twins.refusals(x), 0);
        x.line(2, 0, 0, -2L);
        Due.is("6 a LINE like a code", x.words(2, 0, 0), -2L);
        Due.is("11 a LINE like a code", x.smoothed(-3L, 0), -3L);
        Due.is("46 none of them refused", Twins.refusals(x), 0);
    }
}
