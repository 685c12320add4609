import java.util.ArrayList;
import java.util.List;
import java.util.function.Supplier;

/**
 * A refused call changes nothing but how many were refused so: an object that had it and a twin that hadn't it have to
 * answer alike in all that can be asked.
 */
final class Twins {
    interface Call {
        long on(NobodysBard x);
    }

    private Twins() {
    }

    /** What an object answers, call by call; the first seven are status(1) to status(7). */
    private static final class Seen {
        final List<String> calls = new ArrayList<>();
        final List<Long> answers = new ArrayList<>();

        void add(String call, long answer) {
            calls.add(call);
            answers.add(answer);
        }
    }

    static void refused(String name, Supplier<NobodysBard> made, Call call, int code) {
        NobodysBard had = made.get();
        Due.is(name, call.on(had), code);
        changedNothing(name, had, made.get(), code);
    }

    /** The text that has a FAULT empties THE TAPE and is told by fault: so the twin reads what it follows anyway once more. */
    static void changedNothing(String name, NobodysBard had, NobodysBard hadNot, int code) {
        Seen seen = all(had);
        Seen due = all(hadNot);
        for (int i = 0; i < due.calls.size(); i++) {
            if (code < -10 && due.calls.get(i).startsWith("fault")) continue;
            int more = i + 1 == (code < -10 ? 1 : -code) ? 1 : 0;
            if (seen.answers.get(i) == due.answers.get(i) + more) continue;
            Due.is(name + ", then " + due.calls.get(i), seen.answers.get(i), due.answers.get(i) + more);
        }
        Due.is(name + ", as many answers", seen.calls.size(), due.calls.size());
    }

    static int refusals(NobodysBard x) {
        int all = 0;
        for (int what = 1; what <= 7; what++) all += x.status(what);
        return all;
    }

    // ---- objects to refuse calls

    static NobodysBard some() {
        NobodysBard x = new NobodysBard();
        x.image(1);
        Due.text(x, 0, "9 become 8 if tale 1 or long 4;7 7 become 6;");
        Due.text(x, 1, "lose 30;smooth 50;move 40;say 5 for 4;");
        x.bounds(70, 40);
        group(x, 0, 1, 3, 100, Due.line(1, 2, 3, 4), Due.line(9, 9, 21, 22), Due.line(7, 7));
        group(x, 0, 2, 15, 6000, Due.line(1, 2, 3, 4), Due.line(30, 31, 32, 33, 34), Due.line(40));
        group(x, 1, 0, 0, 0, Due.line(50, 51, 52, 53));
        group(x, 1, 3, 0, 0, Due.line(70, 71, 72), Due.line(80, 81, 82, 83, 84));
        group(x, 1, 5, 0, 0);
        // had by 75, moved, smoothed, borrowed, may be by 66, may be by 40, own by 33, own but a late one's
        long[] printed = {Due.line(1, 2, 3, 9), Due.line(1, 2, 3), Due.line(8, 8, 21, 22), Due.line(50, 51, 52, 53),
            Due.line(70, 71, 99), Due.line(80, 81, 191, 192, 193), Due.line(70, 181, 182), Due.line(30, 31, 32, 33, 34)};
        for (int i = 0; i < printed.length; i++) x.line(2, 0, i == 1 ? 2 : 1, printed[i]);
        x.version(Due.line(1, 2), Due.line(3, 2), 1500, 1);
        x.version(Due.line(9), Due.line(8), 0, 1);
        x.version(Due.line(8), Due.line(9), 9999, 1);
        x.year(2, 1600);
        x.year(255, 9999);
        x.answer(3, 6000, 4, 1, 1, Due.line(80, 81, 191, 192, 193));
        x.answer(3, 100, 2, 1, 1, Due.line(7, 7));
        x.answer(15, 0, 9, 0, 2, 0);
        x.answer(0, 9999, 0, 2, 0, Due.line(1, 2, 3));
        work(x);
        rows(x);
        x.image(0);
        x.print(5001);
        x.answer(7, 7, 7, 1, 0, 0);
        Due.feed(x, "1 become 2;3 become 4 if tale 9;");
        return x;
    }

    private static void group(NobodysBard x, int what, int sort, int glen, int day, long... lines) {
        int number = x.open(what, sort, glen, day);
        for (long line : lines) x.line(what, number, 0, line);
    }

    private static void work(NobodysBard x) {
        x.paid(100, 50);
        x.paid(105, 999);
        x.pages(101, 10);
        x.pages(99, 4);
        x.pages(9999, 1);
        x.free(90, 100);
        x.free(0, 0);
        x.world(3);
        x.world(5);
        x.world(2);
        x.says(0, 1, 1);
        x.says(1, 2, 1);
        x.says(2, 15, 3);
    }

    private static void rows(NobodysBard x) {
        int[] ten = {3, 10, 5, 1, 0, 15, 9999, 9, 2, 1};
        x.row(0, 3, 10);
        for (int i = 0; i < 10; i++) x.write(0, i, ten[i]);
        x.row(1, 0, 5);
        x.write(1, 2, 9);
        x.row(2, 1, 7);
    }

    /** As many as can be of all. */
    static NobodysBard full() {
        NobodysBard x = some();
        for (int i = 2; i < 40; i++) x.open(0, 1, 1, 1);
        for (int i = 3; i < 12; i++) x.open(1, 1, 0, 0);
        for (int i = 3; i < 12; i++) x.line(0, 0, 0, Due.line(101));
        for (int i = 1; i < 12; i++) x.line(1, 0, 0, Due.line(102));
        for (int i = 8; i < 60; i++) x.line(2, 0, 1, Due.line(103));
        x.row(3, 0, 55);
        for (int i = 0; i < 5; i++) x.minister(3);
        for (int i = 3; i < 20; i++) x.version(Due.line(1), Due.line(1), 1, 1);
        for (int i = 2; i < 20; i++) x.paid(1, 1);
        for (int i = 3; i < 40; i++) x.pages(1, 1);
        for (int i = 2; i < 8; i++) x.free(1, 1);
        for (int i = 3; i < 8; i++) x.world(1);
        for (int i = 40; i < 400; i += 20) x.feed(0x31206265, 0x636f6d65, 0x20323b20, 0x20202020, 0x20202020);
        return x;
    }

    // ---- all that can be asked

    private static Seen all(NobodysBard x) {
        Seen seen = new Seen();
        for (int what = 1; what <= 7; what++) seen.add("status(" + what + ")", x.status(what));
        seen.add("fault(0)", x.fault(0));
        seen.add("fault(1)", x.fault(1));
        for (int what = 0; what <= 12; what++) seen.add("count(" + what + ")", x.count(what));
        lines(x, seen);
        whose(x, seen);
        answers(x, seen);
        // From here on the object is changed, but both twins alike.
        seen.add("print", x.print(5000));
        for (int word : new int[] {1, 2, 255}) seen.add("year of " + word, x.year(word, 0));
        for (int world = 0; world < 3; world++) {
            for (int glen : new int[] {0, 1, 2, 15}) seen.add("says(" + world + ", " + glen + ")", x.says(world, glen, 0));
        }
        seen.add("told", x.told(0, 0, 0, 5));
        told(x, seen);
        seen.add("the tape", x.text(0, x.count(11)));
        smoothed(x, seen);
        seen.add("restore(0)", x.restore(0));
        images(x, seen);
        seen.add("restore(1)", x.restore(1));
        images(x, seen);
        for (int row = 0; row < 4; row++) {
            seen.add("minister(" + row + ")", x.minister(row));
            seen.add("glen(3, 0)", x.glen(3, 0));
            for (int i : new int[] {0, 6, 59}) seen.add("write(" + row + ", " + i + ")", x.write(row, i, 0x0102030405060708L));
        }
        return seen;
    }

    private static void lines(NobodysBard x, Seen seen) {
        for (int what = 0; what < 2; what++) {
            for (int which : new int[] {0, 1, 11}) {
                seen.add("lines of " + what + ", " + which, x.count(100 + 100 * what + which));
                for (int line : new int[] {0, 11}) seen.add("words(" + what + ", " + which + ", " + line + ")", x.words(what, which, line));
            }
        }
        for (int line : new int[] {0, 7, 8, 59}) seen.add("words(2, 0, " + line + ")", x.words(2, 0, line));
        for (int version = 0; version < 4; version++) {
            seen.add("words(3, " + version + ")", x.words(3, version, 0));
            seen.add("words(4, " + version + ")", x.words(4, version, 0));
            seen.add("which(" + version + ")", x.which(version));
        }
        smoothed(x, seen);
    }

    private static void smoothed(NobodysBard x, Seen seen) {
        seen.add("smoothed 9", x.smoothed(Due.line(9), 1));
        seen.add("smoothed 7 7", x.smoothed(Due.line(7, 7), 0));
        seen.add("smoothed 1", x.smoothed(Due.line(1), 0));
    }

    private static void whose(NobodysBard x, Seen seen) {
        for (int line = 0; line < 8; line++) {
            seen.add("whose(" + line + ", 0)", x.whose(line, 0));
            seen.add("whose(" + line + ", 1)", x.whose(line, 1));
        }
        for (int line : new int[] {0, 2, 4, 7}) seen.add("say(" + line + ")", x.say(line));
        seen.add("late(1, 0)", x.late(1, 0));
        seen.add("late(1, 1)", x.late(1, 1));
        for (int kind = 0; kind < 6; kind++) seen.add("share of " + kind, x.share(kind, 0));
        seen.add("span(1)", x.span(1));
        for (int part = 0; part < 2; part++) {
            seen.add("chance, " + part, x.chance(30, part));
            seen.add("odds, " + part, x.odds(30, part));
            seen.add("most, " + part, x.most(30, part));
        }
        for (int book = 0; book < 3; book++) seen.add("matches of " + book, x.matches(book, 30));
        seen.add("adds(0, 1)", x.adds(0, 1));
        seen.add("added(0, 1, 0)", x.added(0, 1, 0));
    }

    private static void answers(NobodysBard x, Seen seen) {
        for (int answer : new int[] {0, 1, 3, 4, 5, 59}) {
            seen.add("back(" + answer + ")", x.back(answer));
            seen.add("backOdds(" + answer + ", 0)", x.backOdds(answer, 0));
        }
        for (int question = 0; question < 2; question++) {
            seen.add("parted, yes to " + question, x.parted(question, true));
            seen.add("parted, no to " + question, x.parted(question, false));
        }
        seen.add("muddled", x.muddled(-1));
        for (int glen : new int[] {0, 3, 15}) {
            for (int what = 0; what < 4; what++) seen.add("glen(" + glen + ", " + what + ")", x.glen(glen, what));
        }
        for (int d : new int[] {1, 5, 999}) seen.add("more(0, " + d + ")", x.more(0, d));
        seen.add("more(1, 0)", x.more(1, 0));
        seen.add("rate()", x.rate());
        for (int set : new int[] {3, 7, 255}) {
            seen.add("ask(" + set + ", 0)", x.ask(set, 0));
            seen.add("ask(" + set + ", 1)", x.ask(set, 1));
        }
    }

    private static void told(NobodysBard x, Seen seen) {
        int last = x.count(0) - 1;
        for (int line = 0; line < 3; line++) seen.add("told line " + line, x.words(0, last, line));
    }

    private static void images(NobodysBard x, Seen seen) {
        for (int what : new int[] {0, 2, 3, 9, 12}) seen.add("restored count(" + what + ")", x.count(what));
        for (int line : new int[] {0, 4, 5}) seen.add("restored whose(" + line + ")", x.whose(line, 0));
    }
}
