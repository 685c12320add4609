import java.util.Arrays;

/** A bard whom nobody met: SONGS, THE PRINT and BOOKS as LINES of WORDS, and what they say of one another. */
public final class NobodysBard {
    public static final int NONE = -1;

    private static final int NONE_SUCH = -2;
    private static final int CANNOT_BE = -3;
    private static final int FULL = -4;
    private static final int NOT_NOW = -5;
    private static final int MISSING = -6;
    private static final int TOO_SOON = -7;
    private static final int FAULTY = -10;

    private static final int LAST_TALE = 9;
    private static final int LAST_LAND = 5;
    private static final int LAST_GLEN = 15;
    private static final int LAST_DAY = 9999;
    private static final int LAST_WORD = 255;
    private static final int LONGEST = 8;
    private static final int TAPE = 400;
    private static final int FED = 20;

    private static final int SONG = 0;
    private static final int BOOK = 1;
    private static final int PRINT = 2;
    private static final int OLD = 3;
    private static final int NEW = 4;

    private static final int HAD = 0;
    private static final int MOVED = 1;
    private static final int SMOOTHED = 2;
    private static final int BORROWED = 3;
    private static final int MAY_BE = 4;
    private static final int OWN = 5;
    // Further kinds of LINES to look among: they stand behind the six that the document numbers.
    private static final int EARLY = 6;
    private static final int LATE = 7;
    private static final int PRINTED = 8;
    private static final int ABROAD = 9;

    private final State now = new State();
    private final State imageZero = new State();
    private final State imageOne = new State();
    private final boolean[] made = new boolean[2];
    private final Judge judge = new Judge(now);
    private final Rows rows = new Rows();
    private final Reader reader = new Reader();
    private final byte[] tape = new byte[TAPE];
    private int onTape;
    private final long[] left = new long[State.SONG_LINES];
    private final int[] refused = new int[8];

    public NobodysBard() {
    }

    // ---- lines

    public int open(int what, int a, int glen, int day) {
        if (what != SONG && what != BOOK) return refuse(NONE_SUCH);
        if (!within(a, 0, what == SONG ? LAST_TALE : LAST_LAND)) return refuse(CANNOT_BE);
        if (what == SONG && !isGlenAndDay(glen, day)) return refuse(CANNOT_BE);
        Pile pile = now.pile(what);
        if (pile.isFull()) return refuse(FULL);
        return what == SONG ? pile.start(a, glen, day) : pile.start(a, 0, 0);
    }

    public int line(int what, int which, int tale, long words) {
        if (!within(what, SONG, PRINT)) return refuse(NONE_SUCH);
        Pile pile = now.pile(what);
        int group = what == PRINT ? 0 : which;
        if (!pile.has(group)) return refuse(NONE_SUCH);
        if (what == PRINT && !within(tale, 0, LAST_TALE)) return refuse(CANNOT_BE);
        long line = Line.clean(words);
        if (line == 0) return refuse(CANNOT_BE);
        if (pile.isFull(group)) return refuse(FULL);
        if (what == SONG) return now.putIntoSong(group, line);
        return pile.put(group, what == PRINT ? tale : 0, line);
    }

    public int print(int day) {
        if (!within(day, 0, LAST_DAY)) return refuse(CANNOT_BE);
        int was = now.print.day[0];
        now.print.day[0] = day;
        return was;
    }

    public int bounds(int high, int low) {
        if (!within(high, 1, 100) || !within(low, 1, high)) return refuse(CANNOT_BE);
        now.high = high;
        now.low = low;
        return 0;
    }

    public long words(int what, int which, int line) {
        if (!within(what, SONG, NEW)) return refuse(NONE_SUCH);
        Pile pile = now.pile(what);
        int group = what == PRINT ? 0 : which;
        int number = what == OLD ? 0 : what == NEW ? 1 : line;
        if (!pile.has(group, number)) return refuse(NONE_SUCH);
        return pile.at(group, number);
    }

    public int like(long a, long b) {
        long one = Line.clean(a);
        long other = Line.clean(b);
        if (one == 0 || other == 0) return refuse(CANNOT_BE);
        return Line.alike(one, other);
    }

    // ---- texts

    public int feed(int a, int b, int c, int d, int e) {
        if (onTape + FED > TAPE) return refuse(FULL);
        feedInt(a);
        feedInt(b);
        feedInt(c);
        feedInt(d);
        feedInt(e);
        return onTape;
    }

    private void feedInt(int bytes) {
        for (int shift = 24; shift >= 0; shift -= 8) {
            if (onTape < tape.length) {
                tape[onTape] = (byte) (bytes >>> shift);
                onTape++;
            }
        }
    }

    public int text(int what, int n) {
        if (what != 0 && what != 1) return refuse(NONE_SUCH);
        if (!within(n, 0, onTape)) return refuse(CANNOT_BE);
        onTape = 0;
        reader.scan(tape, n);
        if (what == 0) {
            reader.readFashion();
        } else {
            reader.readLaw();
        }
        if (reader.fault != 0) return refuse(FAULTY - reader.fault);
        if (what == 0) {
            now.follow(reader.fashion);
            return now.fashion.rules;
        }
        now.law.copy(reader.law);
        return now.law.ways;
    }

    public int fault(int what) {
        if (what == 0) return reader.fault;
        return what == 1 && reader.fault != 0 ? reader.place : NONE;
    }

    public long smoothed(long words, int tale) {
        long line = Line.clean(words);
        if (line == 0 || !within(tale, 0, LAST_TALE)) return refuse(CANNOT_BE);
        return now.fashion.smooth(line, tale);
    }

    public int told(int song, int glen, int day, int seed) {
        if (!now.songs.has(song)) return refuse(NONE_SUCH);
        if (!isGlenAndDay(glen, day)) return refuse(CANNOT_BE);
        if (now.songs.isFull()) return refuse(FULL);
        int many = now.tellOn(song, seed, left);
        if (many == 0) return refuse(NOT_NOW);
        int young = now.songs.start(now.songs.sort[song], glen, day);
        for (int i = 0; i < many && i < left.length; i++) {
            now.putIntoSong(young, left[i]);
        }
        return young;
    }

    // ---- whose

    public int whose(int line, int part) {
        if (!now.print.has(0, line) || !isHalf(part)) return refuse(NONE_SUCH);
        judge.look(line);
        return part == 0 ? judge.kind : judge.from;
    }

    public int late(int song, int line) {
        if (!now.songs.has(song, line)) return refuse(NONE_SUCH);
        if (now.isEarly(song)) return refuse(NOT_NOW);
        long words = now.songs.at(song, line);
        if (judge.nearest(EARLY, words, NONE) >= now.high) return 1;
        return judge.nearest(PRINTED, words, NONE) >= now.high ? 2 : 0;
    }

    public int share(int kind, int what) {
        if (!within(kind, HAD, OWN) || !isHalf(what)) return refuse(NONE_SUCH);
        int all = now.print.lines[0];
        if (all == 0) return refuse(NOT_NOW);
        judge.countKinds();
        int many = judge.ofKind[kind];
        return what == 0 ? many : 1000 * many / all;
    }

    public int span(int what) {
        if (!isHalf(what)) return refuse(NONE_SUCH);
        int all = now.print.lines[0];
        if (all == 0) return refuse(NOT_NOW);
        judge.countKinds();
        int theirs = judge.ofKind[HAD] + judge.ofKind[MOVED] + judge.ofKind[SMOOTHED];
        if (what == 1) theirs += judge.ofKind[MAY_BE];
        return 1000 * theirs / all;
    }

    public int chance(int t, int part) {
        if (!isHalf(part)) return refuse(NONE_SUCH);
        if (!isBound(t)) return refuse(CANNOT_BE);
        return (int) Judge.fraction(judge.pairsBy(ABROAD, t), judge.pairs(ABROAD), part);
    }

    public long odds(int t, int part) {
        if (!isHalf(part)) return refuse(NONE_SUCH);
        if (!isBound(t)) return refuse(CANNOT_BE);
        long upper = (long) judge.pairsBy(EARLY, t) * judge.pairs(ABROAD);
        long lower = (long) judge.pairs(EARLY) * judge.pairsBy(ABROAD, t);
        return Judge.fraction(upper, lower, part);
    }

    public int matches(int book, int t) {
        if (!now.books.has(book)) return refuse(NONE_SUCH);
        if (!isBound(t)) return refuse(CANNOT_BE);
        return judge.matchesOf(book, t);
    }

    public int most(int t, int part) {
        if (!within(part, 0, 2)) return refuse(NONE_SUCH);
        if (!isBound(t)) return refuse(CANNOT_BE);
        int books = now.books.size;
        if (books == 0) return refuse(NOT_NOW);
        int first = 0;
        int greatest = 0;
        int together = 0;
        for (int book = 0; book < books; book++) {
            int many = judge.matchesOf(book, t);
            together += many;
            if (many > greatest) {
                greatest = many;
                first = book;
            }
        }
        return part == 2 ? first : (int) Judge.fraction(greatest * books, together, part);
    }

    public int adds(int book, int tale) {
        if (!now.books.has(book)) return refuse(NONE_SUCH);
        if (!within(tale, 0, LAST_TALE)) return refuse(CANNOT_BE);
        return judge.addsOf(book, tale, NONE);
    }

    public int added(int book, int tale, int i) {
        if (!now.books.has(book)) return refuse(NONE_SUCH);
        if (!within(tale, 0, LAST_TALE)) return refuse(CANNOT_BE);
        return i < 0 ? NONE : judge.addsOf(book, tale, i);
    }

    public int year(int word, int year) {
        if (!within(word, 1, LAST_WORD)) return refuse(NONE_SUCH);
        if (!within(year, 0, LAST_DAY)) return refuse(CANNOT_BE);
        int was = now.years[word];
        now.years[word] = year;
        return was;
    }

    public int version(long old, long young, int day, int tale) {
        long oldLine = Line.clean(old);
        long newLine = Line.clean(young);
        if (oldLine == 0 || newLine == 0) return refuse(CANNOT_BE);
        if (!within(day, 0, LAST_DAY) || !within(tale, 0, LAST_TALE)) return refuse(CANNOT_BE);
        if (now.versions.isFull()) return refuse(FULL);
        int number = now.versions.start(tale, 0, day);
        now.versions.put(number, tale, oldLine);
        now.versions.put(number, tale, newLine);
        return number;
    }

    public int which(int version) {
        if (!now.versions.has(version, 1)) return refuse(NONE_SUCH);
        long old = now.versions.at(version, 0);
        long young = now.versions.at(version, 1);
        int tale = now.versions.sort[version];
        if (now.hasWordAfter(old, now.versions.day[version])) return 1;
        if (now.fashion.smooth(old, tale) == young) return 0;
        return now.fashion.smooth(young, tale) == old ? 1 : 2;
    }

    // ---- answers

    public int answer(int glen, int day, int hope, int first, int second, long words) {
        if (!isGlenAndDay(glen, day) || !within(hope, 0, Answers.LAST_HOPE)) return refuse(CANNOT_BE);
        if (!within(first, 0, Answers.NOTHING) || !within(second, 0, Answers.NOTHING)) return refuse(CANNOT_BE);
        long line = Line.clean(words);
        if (line == 0 && words != 0) return refuse(CANNOT_BE);
        if (now.answers.room() == 0) return refuse(FULL);
        int number = now.answers.start(glen, day, hope);
        now.answers.hear(number, first, second, line);
        return number;
    }

    public int back(int answer) {
        if (!now.answers.has(answer)) return refuse(NONE_SUCH);
        return judge.isBack(answer) ? 1 : 0;
    }

    public int backOdds(int answer, int part) {
        if (!now.answers.has(answer) || !isHalf(part)) return refuse(NONE_SUCH);
        long line = now.answers.line[answer];
        if (line == 0 || now.answers.day[answer] <= now.print.day[0]) return (int) Judge.fraction(0, 1, part);
        int upper = judge.nearest(PRINTED, line, NONE) * (now.answers.hope[answer] + 1);
        int lower = judge.nearest(EARLY, line, NONE) * 10;
        return (int) Judge.fraction(upper, lower, part);
    }

    public int parted(int question, boolean yes) {
        if (!isHalf(question)) return refuse(NONE_SUCH);
        return judge.partedBy(question, yes ? Answers.YES : Answers.NO);
    }

    public int muddled(int i) {
        return judge.muddledAt(i);
    }

    public int glen(int glen, int what) {
        if (!within(glen, 0, LAST_GLEN) || !within(what, 0, 3)) return refuse(NONE_SUCH);
        int many = 0;
        for (int i = 0; i < now.answers.size; i++) {
            if (now.answers.glen[i] == glen && judge.isCounted(i, what)) many++;
        }
        return many;
    }

    public int paid(int day, int sum) {
        if (!within(day, 0, LAST_DAY) || !within(sum, 1, 999)) return refuse(CANNOT_BE);
        if (now.work.paids >= Work.MOST_PAID) return refuse(FULL);
        return now.work.pay(day, sum);
    }

    public int pages(int day, int many) {
        if (!within(day, 0, LAST_DAY) || !within(many, 1, 99)) return refuse(CANNOT_BE);
        if (now.work.heaps >= Work.MOST_PAGES) return refuse(FULL);
        return now.work.fill(day, many);
    }

    public int more(int what, int d) {
        if (what != 0 && what != 1) return refuse(NONE_SUCH);
        if (what == 1) return now.work.allPaid();
        if (!within(d, 1, 999)) return refuse(CANNOT_BE);
        return now.work.moreBy(d);
    }

    public int free(int from, int to) {
        if (!within(to, 0, LAST_DAY) || !within(from, 0, to)) return refuse(CANNOT_BE);
        if (now.work.spans >= Work.MOST_FREE) return refuse(FULL);
        return now.work.leave(from, to);
    }

    public int rate() {
        if (now.work.heaps == 0) return refuse(NOT_NOW);
        return now.work.leastRate();
    }

    // ---- whom to ask

    public int world(int weight) {
        if (!within(weight, 1, 99)) return refuse(CANNOT_BE);
        if (now.worlds.size >= Worlds.MOST) return refuse(FULL);
        return now.worlds.start(weight);
    }

    public int says(int world, int glen, int answer) {
        if (!now.worlds.has(world) || !within(glen, 0, LAST_GLEN)) return refuse(NONE_SUCH);
        if (!within(answer, 0, Worlds.LAST_SAYING)) return refuse(CANNOT_BE);
        return now.worlds.tell(world, glen, answer);
    }

    public int ask(int set, int part) {
        if (!now.worlds.hasAll(set) || !isHalf(part)) return refuse(NONE_SUCH);
        now.worlds.weigh(set);
        return part == 0 ? now.worlds.cost[set] : now.worlds.first[set];
    }

    // ---- rows, images

    public int row(int row, int sort, int n) {
        if (!rows.canBe(row) || !within(sort, 0, Rows.LAST_SORT)) return refuse(NONE_SUCH);
        if (!within(n, 0, Rows.LONGEST_ROW)) return refuse(CANNOT_BE);
        rows.lay(row, sort, n);
        return 0;
    }

    public long write(int row, int i, long v) {
        if (!rows.canBe(row)) return refuse(NONE_SUCH);
        if (rows.size[row] == NONE) return refuse(MISSING);
        if (!within(i, 0, rows.size[row] - 1)) return refuse(TOO_SOON);
        return rows.put(row, i, v);
    }

    public int minister(int row) {
        if (!rows.canBe(row)) return refuse(NONE_SUCH);
        int numbers = rows.size[row];
        if (numbers == NONE) return refuse(MISSING);
        if (numbers % Rows.ANSWER != 0) return refuse(TOO_SOON);
        for (int i = 0; i < numbers; i++) {
            if (!within(rows.at(row, i), 0, Answers.greatest(i % Rows.ANSWER))) return refuse(CANNOT_BE);
        }
        int many = numbers / Rows.ANSWER;
        if (many > now.answers.room()) return refuse(FULL);
        for (int k = 0; k < many; k++) {
            int at = k * Rows.ANSWER;
            int number = now.answers.start((int) rows.at(row, at), (int) rows.at(row, at + 1), (int) rows.at(row, at + 2));
            now.answers.hear(number, (int) rows.at(row, at + 3), (int) rows.at(row, at + 4), 0);
        }
        return many;
    }

    public int say(int line) {
        if (!now.print.has(0, line)) return refuse(NONE_SUCH);
        if (!now.hasEarly() && now.books.size == 0) return 0;
        judge.look(line);
        switch (judge.kind) {
            case HAD:
            case MOVED:
                return 1;
            case SMOOTHED:
                return 2;
            case BORROWED:
                return 3;
            case MAY_BE:
                return 4;
            default:
                return judge.nearest(LATE, now.print.at(0, line), NONE) >= now.high ? 5 : 6;
        }
    }

    public int image(int i) {
        if (!isHalf(i)) return refuse(NONE_SUCH);
        imageAt(i).copy(now);
        made[i] = true;
        return 0;
    }

    public int restore(int i) {
        if (!isHalf(i)) return refuse(NONE_SUCH);
        if (!made[i]) return refuse(NOT_NOW);
        now.copy(imageAt(i));
        return 0;
    }

    public int status(int what) {
        return within(what, 1, 7) ? refused[what] : NONE;
    }

    public int count(int what) {
        if (within(what, 100, 199)) return linesOf(now.songs, what - 100);
        if (what >= 200) return linesOf(now.books, what - 200);
        switch (what) {
            case 0: return now.songs.size;
            case 1: return now.books.size;
            case 2: return now.print.lines[0];
            case 3: return now.answers.size;
            case 4: return now.versions.size;
            case 5: return now.work.paids;
            case 6: return now.work.heaps;
            case 7: return now.work.spans;
            case 8: return now.worlds.size;
            case 9: return now.fashion.rules;
            case 10: return now.law.ways;
            case 11: return onTape;
            case 12: return now.print.day[0];
            default: return NONE;
        }
    }

    private static int linesOf(Pile pile, int group) {
        return pile.has(group) ? pile.lines[group] : NONE;
    }

    private State imageAt(int i) {
        return i == 0 ? imageZero : imageOne;
    }

    /** Counts a refused call; its code is what the call answers. */
    private int refuse(int code) {
        int kind = code < FAULTY ? 1 : -code;
        if (kind >= 0 && kind < refused.length) refused[kind]++;
        return code;
    }

    private static boolean within(long n, long least, long greatest) {
        return n >= least && n <= greatest;
    }

    private static boolean isGlenAndDay(int glen, int day) {
        return within(glen, 0, LAST_GLEN) && within(day, 0, LAST_DAY);
    }

    private static boolean isHalf(int n) {
        return n == 0 || n == 1;
    }

    private static boolean isBound(int t) {
        return within(t, 1, 100);
    }

    /** LINES as longs: the first WORD is the highest byte, and behind the last one all bytes are 0. */
    private static final class Line {
        static int length(long line) {
            for (int i = 0; i < LONGEST; i++) {
                if (word(line, i) == 0) return i;
            }
            return LONGEST;
        }

        static int word(long line, int i) {
            return (int) (line >>> (56 - 8 * i)) & 255;
        }

        /** The LINE that is told by these bytes; 0 if there are no WORDS. */
        static long clean(long bytes) {
            return head(bytes, length(bytes));
        }

        // The shifts below keep 0 and 8 WORDS apart, because Java takes a shift by 64 as one by 0.

        static long head(long line, int n) {
            if (n <= 0) return 0;
            return n >= LONGEST ? line : line & (-1L << (64 - 8 * n));
        }

        static long without(long line, int n) {
            return n >= LONGEST ? 0 : line << (8 * n);
        }

        static long behind(long line, int n) {
            return n >= LONGEST ? 0 : line >>> (8 * n);
        }

        /** LIKE of two LINES. */
        static int alike(long a, long b) {
            if (a == b) return 100;
            int longer = Math.max(length(a), length(b));
            return longer == 0 ? 0 : 100 * common(a, b) / longer;
        }

        /** The longest row in both: each step of it takes a bit out of open, so that no table is made for a pair. */
        private static int common(long a, long b) {
            int open = 255;
            long rest = a;
            for (int i = 0; i < LONGEST && rest != 0; i++) {
                int met = open & places(b, (int) (rest >>> 56));
                open = ((open + met) | (open - met)) & 255;
                rest <<= 8;
            }
            return LONGEST - Integer.bitCount(open);
        }

        /** A bit for each place where the WORD stands. */
        static int places(long line, int word) {
            int bits = 0;
            long rest = line;
            for (int i = 0; i < LONGEST && rest != 0; i++) {
                if ((int) (rest >>> 56) == word) bits |= 1 << i;
                rest <<= 8;
            }
            return bits;
        }
    }

    /** LINES in groups that are numbered as they come: SONGS, BOOKS, VERSIONS (an old LINE, a new one), THE PRINT (one group). */
    private static final class Pile {
        final int most;
        final int each;
        int size;
        final int[] sort;
        final int[] glen;
        final int[] day;
        final int[] lines;
        final int[] tale;
        final long[] line;

        Pile(int groups, int linesOfEach) {
            most = Math.max(0, groups);
            each = Math.max(0, linesOfEach);
            sort = new int[most];
            glen = new int[most];
            day = new int[most];
            lines = new int[most];
            tale = new int[most * each];
            line = new long[most * each];
        }

        boolean has(int group) {
            return group >= 0 && group < size;
        }

        boolean has(int group, int i) {
            return has(group) && i >= 0 && i < lines[group];
        }

        boolean isFull() {
            return size >= most;
        }

        boolean isFull(int group) {
            return !has(group) || lines[group] >= each;
        }

        int start(int itsSort, int itsGlen, int itsDay) {
            if (isFull()) return NONE;
            sort[size] = itsSort;
            glen[size] = itsGlen;
            day[size] = itsDay;
            lines[size] = 0;
            return size++;
        }

        int put(int group, int itsTale, long words) {
            if (isFull(group)) return NONE;
            int i = lines[group];
            tale[group * each + i] = itsTale;
            line[group * each + i] = words;
            lines[group]++;
            return i;
        }

        long at(int group, int i) {
            return has(group, i) ? line[group * each + i] : 0;
        }

        void copy(Pile other) {
            if (other.most != most || other.each != each) return;
            size = other.size;
            System.arraycopy(other.sort, 0, sort, 0, most);
            System.arraycopy(other.glen, 0, glen, 0, most);
            System.arraycopy(other.day, 0, day, 0, most);
            System.arraycopy(other.lines, 0, lines, 0, most);
            System.arraycopy(other.tale, 0, tale, 0, most * each);
            System.arraycopy(other.line, 0, line, 0, most * each);
        }
    }

    /** FASHION: its RULES; the TESTS stand in one row of code, each FACT behind what it is made of. */
    private static final class Fashion {
        static final int MOST = 12;
        static final int SIDE = 4;
        static final int TIMES = 12;
        // Each code takes at least two bytes of the text.
        static final int MOST_CODES = TAPE / 2;

        int rules;
        int codes;
        final long[] left = new long[MOST];
        final long[] right = new long[MOST];
        final int[] testFrom = new int[MOST];
        final int[] testTo = new int[MOST];
        final int[] code = new int[MOST_CODES];
        final int[] number = new int[MOST_CODES];

        void copy(Fashion other) {
            rules = other.rules;
            codes = other.codes;
            System.arraycopy(other.left, 0, left, 0, MOST);
            System.arraycopy(other.right, 0, right, 0, MOST);
            System.arraycopy(other.testFrom, 0, testFrom, 0, MOST);
            System.arraycopy(other.testTo, 0, testTo, 0, MOST);
            System.arraycopy(other.code, 0, code, 0, MOST_CODES);
            System.arraycopy(other.number, 0, number, 0, MOST_CODES);
        }

        void clear() {
            rules = 0;
            codes = 0;
        }

        void emit(int itsCode, int itsNumber) {
            if (codes >= MOST_CODES) return;
            code[codes] = itsCode;
            number[codes] = itsNumber;
            codes++;
        }

        /** A RULE more; its TEST is what was emitted since testStart. */
        void put(long leftSide, long rightSide, int testStart) {
            if (rules >= MOST) return;
            left[rules] = leftSide;
            right[rules] = rightSide;
            testFrom[rules] = testStart;
            testTo[rules] = codes;
            rules++;
        }

        long smooth(long line, int tale) {
            long smooth = line;
            for (int time = 0; time < TIMES; time++) {
                long next = step(smooth, tale);
                if (next == smooth) return smooth;
                smooth = next;
            }
            return smooth;
        }

        /** The LINE with the first RULE done that CAN be done; the LINE as it is, if none CAN. */
        private long step(long line, int tale) {
            for (int rule = 0; rule < rules && rule < MOST; rule++) {
                if (!holds(rule, line, tale)) continue;
                long next = replaced(rule, line);
                if (next != line) return next;
            }
            return line;
        }

        private long replaced(int rule, long line) {
            int out = Line.length(left[rule]);
            int in = Line.length(right[rule]);
            int length = Line.length(line);
            if (length - out + in > LONGEST) return line;
            for (int at = 0; at + out <= length; at++) {
                if (Line.head(Line.without(line, at), out) == left[rule]) {
                    long rest = Line.without(line, at + out);
                    return Line.head(line, at) | Line.behind(right[rule], at) | Line.behind(rest, at + in);
                }
            }
            return line;
        }

        private boolean holds(int rule, long line, int tale) {
            if (testFrom[rule] >= testTo[rule]) return true;
            // A pile of bits, the last one lowest: TESTS are at most 9 deep and leave two bits open at each depth.
            long bits = 0;
            for (int i = testFrom[rule]; i < testTo[rule] && i < MOST_CODES; i++) {
                bits = taken(bits, i, line, tale);
            }
            return (bits & 1) == 1;
        }

        private long taken(long bits, int i, long line, int tale) {
            switch (code[i]) {
                case Reader.NOT:
                    return bits ^ 1;
                case Reader.AND:
                    return (bits >>> 1) & (bits | ~1L);
                case Reader.OR:
                    return (bits >>> 1) | (bits & 1);
                case Reader.HAS:
                    return bits << 1 | (Line.places(line, number[i]) != 0 ? 1 : 0);
                case Reader.LONG:
                    return bits << 1 | (Line.length(line) >= number[i] ? 1 : 0);
                default:
                    return bits << 1 | (tale == number[i] ? 1 : 0);
            }
        }
    }

    /** LAW: its chances, and what is said for each WORD (0: the WORD itself). */
    private static final class Law {
        static final int MOST = 12;

        int ways;
        int lose;
        int move;
        int smooth;
        final int[] said = new int[LAST_WORD + 1];

        void copy(Law other) {
            ways = other.ways;
            lose = other.lose;
            move = other.move;
            smooth = other.smooth;
            System.arraycopy(other.said, 0, said, 0, LAST_WORD + 1);
        }

        void clear() {
            ways = 0;
            lose = 0;
            move = 0;
            smooth = 0;
            Arrays.fill(said, 0);
        }

        void putChance(int word, int chance) {
            if (word == Reader.LOSE) lose = chance;
            if (word == Reader.MOVE) move = chance;
            if (word == Reader.SMOOTH) smooth = chance;
        }

        void putSaying(int word, int inPlaceOf) {
            if (inPlaceOf >= 0 && inPlaceOf <= LAST_WORD && said[inPlaceOf] == 0) said[inPlaceOf] = word;
        }

        long respoken(long line) {
            long spoken = 0;
            for (int i = 0; i < LONGEST; i++) {
                int word = Line.word(line, i);
                int other = said[word] == 0 ? word : said[word];
                spoken = spoken << 8 | other;
            }
            return spoken;
        }

        static int next(int x) {
            return 1103515245 * x + 12345;
        }

        static int drawn(int x) {
            return (x >>> 16) % 100;
        }
    }

    /** Reads a text as TOKENS, and TOKENS as FASHION or LAW, up to its first FAULT. */
    private static final class Reader {
        static final int END = 0;
        static final int BAD = 1;
        static final int NUMBER = 2;
        static final int SEMICOLON = 3;
        static final int OPEN = 4;
        static final int CLOSE = 5;
        static final int BECOME = 6;
        static final int IF = 7;
        static final int OR = 8;
        static final int AND = 9;
        static final int NOT = 10;
        static final int HAS = 11;
        static final int LONG = 12;
        static final int TALE = 13;
        static final int LOSE = 14;
        static final int MOVE = 15;
        static final int SMOOTH = 16;
        static final int SAY = 17;
        static final int FOR = 18;
        static final int OTHER = 19;

        static final int NO_TOKEN = 1;
        static final int CANNOT_STAND = 2;
        static final int OUT_OF_BOUNDS = 3;
        static final int TOO_MANY = 4;
        static final int TOO_DEEP = 5;
        static final int DEEPEST = 8;

        final Fashion fashion = new Fashion();
        final Law law = new Law();
        int fault;
        int place;
        private int tokens;
        private int at;
        private final int[] token = new int[TAPE + 1];
        private final int[] value = new int[TAPE + 1];
        private final int[] start = new int[TAPE + 1];

        /** Cuts the first n bytes into TOKENS, and the end behind them. */
        void scan(byte[] text, int n) {
            fault = 0;
            place = NONE;
            tokens = 0;
            at = 0;
            int length = Math.min(n, text.length);
            int next = 0;
            for (int i = 0; i < length; i++) {
                if (i < next || text[i] == 10 || text[i] == 32) continue;
                next = endOfToken(text, i, length);
                putToken(kindOf(text, i, next), numberOf(text, i, next), i);
            }
            putToken(END, 0, n);
        }

        private void putToken(int itsKind, int itsValue, int itsStart) {
            if (tokens > TAPE) return;
            token[tokens] = itsKind;
            value[tokens] = itsValue;
            start[tokens] = itsStart;
            tokens++;
        }

        private static boolean isLetter(int c) {
            return c >= 'a' && c <= 'z';
        }

        private static boolean isDigit(int c) {
            return c >= '0' && c <= '9';
        }

        private static int endOfToken(byte[] text, int from, int length) {
            if (from < 0 || length > text.length) return length;
            for (int end = from; end < length; end++) {
                boolean on = isLetter(text[from]) ? isLetter(text[end]) : isDigit(text[from]) && isDigit(text[end]);
                if (!on) return Math.max(end, from + 1);
            }
            return length;
        }

        private static int kindOf(byte[] text, int from, int to) {
            int c = from >= 0 && from < text.length ? text[from] : 0;
            if (isDigit(c)) return to - from > 3 ? BAD : NUMBER;
            if (isLetter(c)) return wordKind(text, from, to);
            if (c == ';') return SEMICOLON;
            if (c == '(') return OPEN;
            return c == ')' ? CLOSE : BAD;
        }

        private static int numberOf(byte[] text, int from, int to) {
            if (from < 0 || to > text.length || to - from > 3) return 0;
            int number = 0;
            for (int i = from; i < to; i++) {
                if (isDigit(text[i])) number = 10 * number + text[i] - '0';
            }
            return number;
        }

        private static int wordKind(byte[] text, int from, int to) {
            if (spells(text, from, to, "become")) return BECOME;
            if (spells(text, from, to, "if")) return IF;
            if (spells(text, from, to, "or")) return OR;
            if (spells(text, from, to, "and")) return AND;
            if (spells(text, from, to, "not")) return NOT;
            if (spells(text, from, to, "has")) return HAS;
            if (spells(text, from, to, "long")) return LONG;
            if (spells(text, from, to, "tale")) return TALE;
            if (spells(text, from, to, "lose")) return LOSE;
            if (spells(text, from, to, "move")) return MOVE;
            if (spells(text, from, to, "smooth")) return SMOOTH;
            if (spells(text, from, to, "say")) return SAY;
            return spells(text, from, to, "for") ? FOR : OTHER;
        }

        private static boolean spells(byte[] text, int from, int to, String word) {
            if (from < 0 || to > text.length || to - from != word.length()) return false;
            for (int i = from; i < to; i++) {
                if (text[i] != word.charAt(i - from)) return false;
            }
            return true;
        }

        void readFashion() {
            fashion.clear();
            for (int rule = 0; rule <= Fashion.MOST && fault == 0 && !isAt(END); rule++) {
                readRule();
            }
        }

        private void readRule() {
            long left = readSide(fashion.rules >= Fashion.MOST);
            take(BECOME);
            long right = readSide(false);
            int testStart = fashion.codes;
            if (isAt(IF)) {
                at++;
                readTest(0);
            }
            take(SEMICOLON);
            if (fault == 0) fashion.put(left, right, testStart);
        }

        /** One side of become: at least one WORD. The first one is one too many in a RULE too many. */
        private long readSide(boolean tooMany) {
            long side = 0;
            for (int i = 0; i <= Fashion.SIDE && fault == 0; i++) {
                if (i > 0 && !isAt(NUMBER)) return side;
                int word = readNumber(1, LAST_WORD, tooMany || i == Fashion.SIDE);
                side |= Line.behind((long) word << 56, i);
            }
            return side;
        }

        /** TEST and its PARTS in one: that keeps the calls few that stand open at once. */
        private void readTest(int depth) {
            for (int part = 0; part < TAPE && fault == 0; part++) {
                readFact(depth);
                for (int fact = 0; fact < TAPE && fault == 0 && isAt(AND); fact++) {
                    at++;
                    readFact(depth);
                    fashion.emit(AND, 0);
                }
                if (part > 0) fashion.emit(OR, 0);
                if (!isAt(OR)) return;
                at++;
            }
        }

        private void readFact(int depth) {
            if (fault != 0) return;
            if (isAt(HAS)) {
                readPlainFact(HAS, 1, LAST_WORD);
            } else if (isAt(LONG)) {
                readPlainFact(LONG, 1, LONGEST);
            } else if (isAt(TALE)) {
                readPlainFact(TALE, 0, LAST_TALE);
            } else if (!isAt(NOT) && !isAt(OPEN)) {
                blame(CANNOT_STAND);
            } else if (depth >= DEEPEST) {
                blame(TOO_DEEP);
            } else if (isAt(NOT)) {
                at++;
                readFact(depth + 1);
                fashion.emit(NOT, 0);
            } else {
                at++;
                readTest(depth + 1);
                take(CLOSE);
            }
        }

        private void readPlainFact(int kind, int least, int greatest) {
            at++;
            fashion.emit(kind, readNumber(least, greatest, false));
        }

        void readLaw() {
            law.clear();
            for (int way = 0; way <= Law.MOST && fault == 0 && !isAt(END); way++) {
                readWay();
            }
        }

        private void readWay() {
            int word = isAt(LOSE) ? LOSE : isAt(MOVE) ? MOVE : isAt(SMOOTH) ? SMOOTH : isAt(SAY) ? SAY : OTHER;
            if (word == OTHER) {
                blame(CANNOT_STAND);
            } else if (law.ways >= Law.MOST) {
                blame(TOO_MANY);
            } else {
                at++;
                if (word == SAY) {
                    int said = readNumber(1, LAST_WORD, false);
                    take(FOR);
                    law.putSaying(said, readNumber(1, LAST_WORD, false));
                } else {
                    law.putChance(word, readNumber(0, 99, false));
                }
                take(SEMICOLON);
                law.ways++;
            }
        }

        /** An N within bounds; tooMany: it may not come here all the same, but that is the lesser FAULT of those it can have. */
        private int readNumber(int least, int greatest, boolean tooMany) {
            if (!isAt(NUMBER)) {
                blame(CANNOT_STAND);
                return 0;
            }
            int number = value[at];
            if (number < least || number > greatest) {
                blame(OUT_OF_BOUNDS);
            } else if (tooMany) {
                blame(TOO_MANY);
            }
            at++;
            return number;
        }

        private void take(int kind) {
            if (isAt(kind)) {
                at++;
            } else {
                blame(CANNOT_STAND);
            }
        }

        /** False behind a FAULT, too: nothing is taken there any more. */
        private boolean isAt(int kind) {
            return fault == 0 && at >= 0 && at < tokens && token[at] == kind;
        }

        /** Keeps the first FAULT; where no TOKEN begins, that is the least one. */
        private void blame(int kind) {
            if (fault != 0 || at < 0 || at >= tokens) return;
            fault = token[at] == BAD ? NO_TOKEN : kind;
            place = start[at];
        }
    }

    /** All that an IMAGE holds. */
    private static final class State {
        static final int SONGS = 40;
        static final int SONG_LINES = 12;
        static final int BOOKS = 12;
        static final int BOOK_LINES = 12;
        static final int PRINT_LINES = 60;
        static final int VERSIONS = 20;

        final Pile songs = new Pile(SONGS, SONG_LINES);
        final Pile books = new Pile(BOOKS, BOOK_LINES);
        final Pile print = new Pile(1, PRINT_LINES);
        final Pile versions = new Pile(VERSIONS, 2);
        /** LINES of SONGS, each SMOOTHED of its SONG's TALE: kept, since each LINE of THE PRINT is held against all of them. */
        final long[] smoothLine = new long[SONGS * SONG_LINES];
        final int[] years = new int[LAST_WORD + 1];
        final Fashion fashion = new Fashion();
        final Law law = new Law();
        final Answers answers = new Answers();
        final Work work = new Work();
        final Worlds worlds = new Worlds();
        int high = 80;
        int low = 50;

        State() {
            print.start(0, 0, 5000);
        }

        void copy(State other) {
            songs.copy(other.songs);
            books.copy(other.books);
            print.copy(other.print);
            versions.copy(other.versions);
            System.arraycopy(other.smoothLine, 0, smoothLine, 0, SONGS * SONG_LINES);
            System.arraycopy(other.years, 0, years, 0, LAST_WORD + 1);
            fashion.copy(other.fashion);
            law.copy(other.law);
            answers.copy(other.answers);
            work.copy(other.work);
            worlds.copy(other.worlds);
            high = other.high;
            low = other.low;
        }

        Pile pile(int what) {
            switch (what) {
                case SONG: return songs;
                case BOOK: return books;
                case PRINT: return print;
                default: return versions;
            }
        }

        boolean isEarly(int song) {
            return songs.has(song) && songs.day[song] <= print.day[0];
        }

        boolean hasEarly() {
            for (int song = 0; song < songs.size; song++) {
                if (isEarly(song)) return true;
            }
            return false;
        }

        int putIntoSong(int song, long line) {
            if (!songs.has(song)) return NONE;
            int i = songs.put(song, songs.sort[song], line);
            if (i >= 0) smoothLine[song * SONG_LINES + i] = fashion.smooth(line, songs.sort[song]);
            return i;
        }

        void follow(Fashion other) {
            fashion.copy(other);
            for (int song = 0; song < songs.size; song++) {
                for (int i = 0; i < songs.lines[song]; i++) {
                    smoothLine[song * SONG_LINES + i] = fashion.smooth(songs.at(song, i), songs.sort[song]);
                }
            }
        }

        boolean hasWordAfter(long line, int day) {
            for (int i = 0; i < Line.length(line); i++) {
                if (years[Line.word(line, i)] > day) return true;
            }
            return false;
        }

        /** Puts the LINES of a SONG, as they are TOLD ON, into told: how many are left. */
        int tellOn(int song, int seed, long[] told) {
            if (!songs.has(song)) return 0;
            int x = seed;
            int many = 0;
            for (int i = 0; i < songs.lines[song] && many < told.length; i++) {
                x = Law.next(x);
                if (Law.drawn(x) < law.lose) continue;
                long line = law.respoken(songs.at(song, i));
                x = Law.next(x);
                told[many] = Law.drawn(x) < law.smooth ? fashion.smooth(line, songs.sort[song]) : line;
                many++;
            }
            moveAbout(told, many, x);
            return many;
        }

        private void moveAbout(long[] told, int many, int drawn) {
            int x = drawn;
            for (int k = 0; k + 1 < many && k + 1 < told.length; k++) {
                x = Law.next(x);
                if (Law.drawn(x) < law.move) {
                    long line = told[k];
                    told[k] = told[k + 1];
                    told[k + 1] = line;
                }
            }
        }
    }

    /** Holds LINES against LINES of the STATE as it is. */
    private static final class Judge {
        private final State now;
        private final long[] bookSmooth = new long[State.BOOK_LINES];
        final int[] ofKind = new int[OWN + 1];
        int kind;
        int from;
        private int nearestPlace;

        Judge(State state) {
            now = state;
        }

        private Pile pileOf(int among) {
            if (among == PRINTED) return now.print;
            return among == BORROWED || among == ABROAD ? now.books : now.songs;
        }

        private boolean isAmong(int among, int group, int tale) {
            switch (among) {
                case HAD: return now.isEarly(group) && now.songs.sort[group] == tale;
                case MOVED: return now.isEarly(group) && now.songs.sort[group] != tale;
                case SMOOTHED:
                case EARLY: return now.isEarly(group);
                case LATE: return !now.isEarly(group);
                case ABROAD: return now.books.has(group) && now.books.sort[group] != 0;
                default: return true;
            }
        }

        /** The upper (part 0) or lower number of a FRACTION by least numbers. */
        static long fraction(long upper, long lower, int part) {
            long whole = part == 0 ? upper : lower;
            // 0 over 1, 1 over 0, 0 over 0: the one that isn't 0 is 1.
            if (upper == 0 || lower == 0) return whole == 0 ? 0 : 1;
            return whole / Math.max(1, greatestCommon(upper, lower));
        }

        private static long greatestCommon(long a, long b) {
            long large = a;
            long small = b;
            for (int i = 0; i < 200 && small != 0; i++) {
                long rest = large % small;
                large = small;
                small = rest;
            }
            return large;
        }

        /** The greatest LIKE among LINES of a kind (0 if there are none); nearestPlace tells the first of these. */
        int nearest(int among, long line, int tale) {
            Pile pile = pileOf(among);
            int greatest = 0;
            nearestPlace = NONE;
            for (int group = 0; group < pile.size; group++) {
                if (!isAmong(among, group, tale)) continue;
                for (int i = 0; i < pile.lines[group]; i++) {
                    int at = group * pile.each + i;
                    int alike = Line.alike(line, among == SMOOTHED ? now.smoothLine[at] : pile.line[at]);
                    if (alike > greatest) {
                        greatest = alike;
                        nearestPlace = 100 * group + i;
                    }
                }
            }
            return greatest;
        }

        /** Finds the kind of a LINE of THE PRINT, and from where it is. */
        void look(int printed) {
            long line = now.print.at(0, printed);
            int tale = now.print.has(0, printed) ? now.print.tale[printed] : 0;
            int greatest = 0;
            for (int among = HAD; among <= BORROWED; among++) {
                int alike = nearest(among, line, tale);
                if (alike >= now.high) {
                    kind = among;
                    from = nearestPlace;
                    return;
                }
                greatest = Math.max(greatest, alike);
            }
            kind = greatest >= now.low ? MAY_BE : OWN;
            from = NONE;
        }

        void countKinds() {
            Arrays.fill(ofKind, 0);
            for (int printed = 0; printed < now.print.lines[0]; printed++) {
                look(printed);
                if (kind >= 0 && kind < ofKind.length) ofKind[kind]++;
            }
        }

        int pairs(int among) {
            Pile pile = pileOf(among);
            int lines = 0;
            for (int group = 0; group < pile.size; group++) {
                if (isAmong(among, group, NONE)) lines += pile.lines[group];
            }
            return lines * now.print.lines[0];
        }

        int pairsBy(int among, int t) {
            Pile pile = pileOf(among);
            int many = 0;
            for (int group = 0; group < pile.size; group++) {
                if (!isAmong(among, group, NONE)) continue;
                for (int i = 0; i < pile.lines[group]; i++) {
                    many += printedLike(pile.at(group, i), t);
                }
            }
            return many;
        }

        private int printedLike(long line, int t) {
            int many = 0;
            for (int printed = 0; printed < now.print.lines[0]; printed++) {
                if (Line.alike(line, now.print.at(0, printed)) >= t) many++;
            }
            return many;
        }

        int matchesOf(int book, int t) {
            int many = 0;
            for (int printed = 0; printed < now.print.lines[0]; printed++) {
                if (bookHasLike(book, now.print.at(0, printed), t)) many++;
            }
            return many;
        }

        private boolean bookHasLike(int book, long line, int t) {
            if (!now.books.has(book)) return false;
            for (int i = 0; i < now.books.lines[book]; i++) {
                if (Line.alike(now.books.at(book, i), line) >= t) return true;
            }
            return false;
        }

        /** The i-th LINE of THE PRINT that is counted in ADDS of a BOOK; how many, if i is NONE. */
        int addsOf(int book, int tale, int i) {
            if (!now.books.has(book)) return NONE;
            for (int k = 0; k < now.books.lines[book] && k < bookSmooth.length; k++) {
                bookSmooth[k] = now.fashion.smooth(now.books.at(book, k), tale);
            }
            int many = 0;
            for (int printed = 0; printed < now.print.lines[0]; printed++) {
                look(printed);
                if (kind < BORROWED || !wouldBeTheirs(book, now.print.at(0, printed))) continue;
                if (many == i) return printed;
                many++;
            }
            return i == NONE ? many : NONE;
        }

        private boolean wouldBeTheirs(int book, long line) {
            if (!now.books.has(book)) return false;
            if (bookHasLike(book, line, now.high)) return true;
            for (int k = 0; k < now.books.lines[book] && k < bookSmooth.length; k++) {
                if (Line.alike(bookSmooth[k], line) >= now.high) return true;
            }
            return false;
        }

        boolean isBack(int answer) {
            if (!now.answers.has(answer)) return false;
            long line = now.answers.line[answer];
            if (line == 0 || now.answers.day[answer] <= now.print.day[0]) return false;
            return nearest(PRINTED, line, NONE) >= now.high && nearest(EARLY, line, NONE) < now.high;
        }

        private boolean isMuddled(int answer) {
            if (!now.answers.has(answer)) return false;
            long line = now.answers.line[answer];
            if (line == 0 || now.answers.second[answer] != Answers.YES) return false;
            return nearest(EARLY, line, NONE) >= now.high && nearest(PRINTED, line, NONE) < now.high;
        }

        /** The i-th MUDDLED ANSWER; how many, if i is NONE. */
        int muddledAt(int i) {
            int many = 0;
            for (int answer = 0; answer < now.answers.size; answer++) {
                if (!isMuddled(answer)) continue;
                if (many == i) return answer;
                many++;
            }
            return i == NONE ? many : NONE;
        }

        int partedBy(int question, int said) {
            int together = 0;
            for (int answer = 0; answer < now.answers.size; answer++) {
                if (now.answers.heard(answer, question) == said && !isBack(answer)) {
                    together += 10 - now.answers.hope[answer];
                }
            }
            return together;
        }

        boolean isCounted(int answer, int what) {
            switch (what) {
                case 0: return true;
                case 1: return now.answers.heard(answer, 0) == Answers.YES;
                case 2: return now.answers.heard(answer, 1) == Answers.YES;
                default: return isBack(answer);
            }
        }
    }

    /** ANSWERS, numbered as they come; a LINE of 0 is none. */
    private static final class Answers {
        static final int MOST = 60;
        static final int LAST_HOPE = 9;
        static final int NO = 0;
        static final int YES = 1;
        static final int NOTHING = 2;

        int size;
        final int[] glen = new int[MOST];
        final int[] day = new int[MOST];
        final int[] hope = new int[MOST];
        final int[] first = new int[MOST];
        final int[] second = new int[MOST];
        final long[] line = new long[MOST];

        /** The greatest number that can be told in a ROW at each of its five places. */
        static int greatest(int place) {
            switch (place) {
                case 0: return LAST_GLEN;
                case 1: return LAST_DAY;
                case 2: return LAST_HOPE;
                default: return NOTHING;
            }
        }

        boolean has(int answer) {
            return answer >= 0 && answer < size;
        }

        int room() {
            return MOST - size;
        }

        int start(int itsGlen, int itsDay, int itsHope) {
            if (size >= MOST) return NONE;
            glen[size] = itsGlen;
            day[size] = itsDay;
            hope[size] = itsHope;
            return size++;
        }

        void hear(int answer, int toFirst, int toSecond, long itsLine) {
            if (!has(answer)) return;
            first[answer] = toFirst;
            second[answer] = toSecond;
            line[answer] = itsLine;
        }

        int heard(int answer, int question) {
            if (!has(answer)) return NOTHING;
            return question == 0 ? first[answer] : second[answer];
        }

        void copy(Answers other) {
            size = other.size;
            System.arraycopy(other.glen, 0, glen, 0, MOST);
            System.arraycopy(other.day, 0, day, 0, MOST);
            System.arraycopy(other.hope, 0, hope, 0, MOST);
            System.arraycopy(other.first, 0, first, 0, MOST);
            System.arraycopy(other.second, 0, second, 0, MOST);
            System.arraycopy(other.line, 0, line, 0, MOST);
        }
    }

    /** What was PAID, the PAGES that came, and the DAYS that were FREE for them. */
    private static final class Work {
        static final int MOST_PAID = 20;
        static final int MOST_PAGES = 40;
        static final int MOST_FREE = 8;
        static final int GREATEST_RATE = 99;

        int paids;
        int heaps;
        int spans;
        final int[] paidDay = new int[MOST_PAID];
        final int[] paidSum = new int[MOST_PAID];
        final int[] pagesDay = new int[MOST_PAGES];
        final int[] pagesMany = new int[MOST_PAGES];
        final int[] freeFrom = new int[MOST_FREE];
        final int[] freeTo = new int[MOST_FREE];

        int pay(int day, int sum) {
            if (paids < MOST_PAID) {
                paidDay[paids] = day;
                paidSum[paids] = sum;
                paids++;
            }
            return paids;
        }

        int fill(int day, int many) {
            if (heaps < MOST_PAGES) {
                pagesDay[heaps] = day;
                pagesMany[heaps] = many;
                heaps++;
            }
            return heaps;
        }

        int leave(int from, int to) {
            if (spans < MOST_FREE) {
                freeFrom[spans] = from;
                freeTo[spans] = to;
                spans++;
            }
            return spans;
        }

        int allPaid() {
            int sum = 0;
            for (int i = 0; i < paids; i++) {
                sum += paidSum[i];
            }
            return sum;
        }

        int moreBy(int d) {
            int more = 0;
            for (int i = 0; i < paids; i++) {
                int p = paidDay[i];
                more += pagesOf(p + 1, p + d) - pagesOf(p - d, p - 1);
            }
            return more;
        }

        private int pagesOf(int from, int to) {
            int many = 0;
            for (int i = 0; i < heaps; i++) {
                if (pagesDay[i] >= from && pagesDay[i] <= to) many += pagesMany[i];
            }
            return many;
        }

        int leastRate() {
            int least = 1;
            for (int i = 0; i < heaps; i++) {
                int free = freeUpTo(pagesDay[i]);
                if (free == 0) return NONE;
                int done = pagesOf(0, pagesDay[i]);
                least = Math.max(least, (done + free - 1) / free);
            }
            return least > GREATEST_RATE ? NONE : least;
        }

        /** Goes from span to span, each time to the first that isn't over yet, so that no DAY is counted twice. */
        private int freeUpTo(int day) {
            int counted = 0;
            int next = 0;
            for (int turn = 0; turn < spans; turn++) {
                int span = firstSpanEndingFrom(next);
                if (span == NONE) return counted;
                int from = Math.max(next, freeFrom[span]);
                int to = Math.min(day, freeTo[span]);
                counted += Math.max(0, to - from + 1);
                next = freeTo[span] + 1;
            }
            return counted;
        }

        private int firstSpanEndingFrom(int day) {
            int span = NONE;
            for (int i = 0; i < spans; i++) {
                if (freeTo[i] >= day && (span == NONE || freeFrom[i] < freeFrom[span])) span = i;
            }
            return span;
        }

        void copy(Work other) {
            paids = other.paids;
            heaps = other.heaps;
            spans = other.spans;
            System.arraycopy(other.paidDay, 0, paidDay, 0, MOST_PAID);
            System.arraycopy(other.paidSum, 0, paidSum, 0, MOST_PAID);
            System.arraycopy(other.pagesDay, 0, pagesDay, 0, MOST_PAGES);
            System.arraycopy(other.pagesMany, 0, pagesMany, 0, MOST_PAGES);
            System.arraycopy(other.freeFrom, 0, freeFrom, 0, MOST_FREE);
            System.arraycopy(other.freeTo, 0, freeTo, 0, MOST_FREE);
        }
    }

    /** WORLDS, what each GLEN would say in them, and whom to ASK. Sets of them are bits. */
    private static final class Worlds {
        static final int MOST = 8;
        static final int GLENS = LAST_GLEN + 1;
        static final int LAST_SAYING = 3;
        static final int SAYINGS = LAST_SAYING + 1;

        int size;
        final int[] weight = new int[MOST];
        final int[] saying = new int[MOST * GLENS];
        private final int[] worldsSaying = new int[GLENS * SAYINGS];
        final int[] cost = new int[1 << MOST];
        final int[] first = new int[1 << MOST];

        boolean has(int world) {
            return world >= 0 && world < size;
        }

        boolean hasAll(int set) {
            return set >= 0 && set < 1 << size;
        }

        int start(int itsWeight) {
            if (size >= MOST) return NONE;
            weight[size] = itsWeight;
            return size++;
        }

        int tell(int world, int glen, int answer) {
            int at = world * GLENS + glen;
            if (!has(world) || glen < 0 || glen >= GLENS) return NONE;
            int was = saying[at];
            saying[at] = answer;
            return was;
        }

        /** Finds COST and FIRST of the set and of all within it; a part is always a lower number, so it is known before. */
        void weigh(int set) {
            if (!hasAll(set)) return;
            gatherSayings();
            for (int within = 0; within <= set && within < cost.length; within++) {
                if ((within & ~set) == 0) weighOne(within);
            }
        }

        private void gatherSayings() {
            Arrays.fill(worldsSaying, 0);
            for (int world = 0; world < size; world++) {
                for (int glen = 0; glen < GLENS; glen++) {
                    int said = saying[world * GLENS + glen] & LAST_SAYING;
                    worldsSaying[glen * SAYINGS + said] |= 1 << world;
                }
            }
        }

        private void weighOne(int set) {
            cost[set] = 0;
            first[set] = NONE;
            int together = weightOf(set);
            for (int glen = 0; glen < GLENS; glen++) {
                int parts = costOfParts(set, glen);
                if (parts == NONE) continue;
                if (first[set] == NONE || together + parts < cost[set]) {
                    cost[set] = together + parts;
                    first[set] = glen;
                }
            }
        }

        private int weightOf(int set) {
            int together = 0;
            for (int world = 0; world < size; world++) {
                if ((set >> world & 1) == 1) together += weight[world];
            }
            return together;
        }

        /** The COSTS of the parts together; NONE, if the GLEN doesn't part the set. */
        private int costOfParts(int set, int glen) {
            int together = 0;
            for (int answer = 0; answer < SAYINGS; answer++) {
                int part = set & worldsSaying[glen * SAYINGS + answer];
                if (part == set) return NONE;
                together += cost[part];
            }
            return together;
        }

        void copy(Worlds other) {
            size = other.size;
            System.arraycopy(other.weight, 0, weight, 0, MOST);
            System.arraycopy(other.saying, 0, saying, 0, MOST * GLENS);
        }
    }

    /** ROWS of numbers; a size of NONE is a MISSING one. */
    private static final class Rows {
        static final int MANY = 4;
        static final int LAST_SORT = 3;
        static final int LONGEST_ROW = 60;
        static final int ANSWER = 5;

        final int[] size = new int[MANY];
        private final int[] sort = new int[MANY];
        private final long[] number = new long[MANY * LONGEST_ROW];

        Rows() {
            Arrays.fill(size, NONE);
        }

        boolean canBe(int row) {
            return row >= 0 && row < MANY;
        }

        void lay(int row, int itsSort, int n) {
            if (!canBe(row) || n < 0 || n > LONGEST_ROW) return;
            sort[row] = itsSort;
            size[row] = n;
            Arrays.fill(number, row * LONGEST_ROW, row * LONGEST_ROW + LONGEST_ROW, 0);
        }

        long at(int row, int i) {
            return canBe(row) && i >= 0 && i < size[row] ? number[row * LONGEST_ROW + i] : 0;
        }

        long put(int row, int i, long v) {
            if (!canBe(row) || i < 0 || i >= size[row]) return 0;
            long there = cut(sort[row], v);
            number[row * LONGEST_ROW + i] = there;
            return there;
        }

        private static long cut(int itsSort, long v) {
            switch (itsSort) {
                case 0: return (byte) v;
                case 1: return (short) v;
                case 2: return (int) v;
                default: return v;
            }
        }
    }
}
