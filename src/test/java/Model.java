import java.math.BigInteger;
import java.util.ArrayList;
import java.util.List;
import java.util.Map;
import java.util.TreeMap;
import java.util.function.BiPredicate;
import java.util.regex.Matcher;
import java.util.regex.Pattern;

/** The document once more, with lists, maps and big numbers, as a witness against the class: nothing of it is shared. */
public final class Model {
    private record Group(int sort, int glen, int day, List<List<Integer>> lines) {
    }

    private record Printed(int tale, List<Integer> line) {
    }

    private record Version(List<Integer> old, List<Integer> young, int day, int tale) {
    }

    private record Answer(int glen, int day, int hope, int[] said, List<Integer> line) {
    }

    private record Pair(int one, int two) {
    }

    private record Rule(List<Integer> from, List<Integer> to, BiPredicate<List<Integer>, Integer> test) {
    }

    private record Way(String word, int one, int two) {
    }

    /** A LINE somewhere, with the number that FROM tells. */
    private record Place(int from, int tale, List<Integer> line) {
    }

    private static final class Wrong extends RuntimeException {
        final int kind;
        final int place;

        Wrong(int kind, int place) {
            this.kind = kind;
            this.place = place;
        }
    }

    private static final class World {
        List<Group> songs = new ArrayList<>();
        List<Group> books = new ArrayList<>();
        List<Printed> print = new ArrayList<>();
        int printDay = 5000;
        int high = 80;
        int low = 50;
        List<Rule> fashion = new ArrayList<>();
        List<Way> law = new ArrayList<>();
        Map<Integer, Integer> years = new TreeMap<>();
        List<Version> versions = new ArrayList<>();
        List<Answer> answers = new ArrayList<>();
        List<Pair> paid = new ArrayList<>();
        List<Pair> pages = new ArrayList<>();
        List<Pair> free = new ArrayList<>();
        List<Integer> weights = new ArrayList<>();
        Map<Integer, Integer> says = new TreeMap<>();

        World copy() {
            World w = new World();
            for (Group g : songs) w.songs.add(new Group(g.sort, g.glen, g.day, new ArrayList<>(g.lines)));
            for (Group g : books) w.books.add(new Group(g.sort, g.glen, g.day, new ArrayList<>(g.lines)));
            w.print.addAll(print);
            w.printDay = printDay;
            w.high = high;
            w.low = low;
            w.fashion = fashion;
            w.law = law;
            w.years.putAll(years);
            w.versions.addAll(versions);
            w.answers.addAll(answers);
            w.paid.addAll(paid);
            w.pages.addAll(pages);
            w.free.addAll(free);
            w.weights.addAll(weights);
            w.says.putAll(says);
            return w;
        }
    }

    private World w = new World();
    private final World[] images = new World[2];
    private final StringBuilder tape = new StringBuilder();
    private final long[][] rows = new long[4][];
    private final int[] sorts = new int[4];
    private final int[] refused = new int[8];
    private int faultKind = 0;
    private int faultPlace = -1;

    private int no(int code) {
        refused[code <= -10 ? 1 : -code]++;
        return code;
    }

    private static boolean in(long n, long from, long to) {
        return from <= n && n <= to;
    }

    private static List<Integer> list(long words) {
        List<Integer> line = new ArrayList<>();
        for (int shift = 56; shift >= 0 && (words >>> shift & 255) != 0; shift -= 8) line.add((int) (words >>> shift & 255));
        return line;
    }

    private static long number(List<Integer> line) {
        long words = 0;
        for (int i = 0; i < line.size(); i++) words += (long) line.get(i) << 8 * (7 - i);
        return words;
    }

    private static int alike(List<Integer> a, List<Integer> b) {
        int[][] row = new int[a.size() + 1][b.size() + 1];
        for (int i = 1; i <= a.size(); i++) {
            for (int k = 1; k <= b.size(); k++) {
                row[i][k] = a.get(i - 1).equals(b.get(k - 1)) ? row[i - 1][k - 1] + 1 : Math.max(row[i - 1][k], row[i][k - 1]);
            }
        }
        return 100 * row[a.size()][b.size()] / Math.max(a.size(), b.size());
    }

    private static long fraction(long upper, long lower, int part) {
        BigInteger common = BigInteger.valueOf(upper).gcd(BigInteger.valueOf(lower));
        if (common.signum() == 0) return 0;
        return (part == 0 ? upper : lower) / common.longValueExact();
    }

    private List<Integer> smooth(List<Integer> line, int tale) {
        List<Integer> now = line;
        for (int time = 0; time < 12; time++) {
            List<Integer> then = null;
            for (Rule rule : w.fashion) {
                if (then == null) then = done(rule, now, tale);
            }
            if (then == null) return now;
            now = then;
        }
        return now;
    }

    private static List<Integer> done(Rule rule, List<Integer> line, int tale) {
        if (!rule.test.test(line, tale)) return null;
        int at = java.util.Collections.indexOfSubList(line, rule.from);
        if (at < 0) return null;
        List<Integer> then = new ArrayList<>(line.subList(0, at));
        then.addAll(rule.to);
        then.addAll(line.subList(at + rule.from.size(), line.size()));
        return then.size() < 1 || then.size() > 8 || then.equals(line) ? null : then;
    }

    // ---- where LINES are

    private boolean early(Group song) {
        return song.day <= w.printDay;
    }

    private List<Place> places(List<Group> groups) {
        List<Place> places = new ArrayList<>();
        for (int g = 0; g < groups.size(); g++) {
            for (int i = 0; i < groups.get(g).lines.size(); i++) {
                places.add(new Place(100 * g + i, groups.get(g).sort, groups.get(g).lines.get(i)));
            }
        }
        return places;
    }

    private List<Place> songs(boolean earlyOnes) {
        return places(w.songs).stream().filter(p -> early(w.songs.get(p.from / 100)) == earlyOnes).toList();
    }

    private List<Place> printed() {
        return w.print.stream().map(p -> new Place(0, p.tale, p.line)).toList();
    }

    private static int best(List<Place> places, List<Integer> line) {
        return places.stream().mapToInt(p -> alike(p.line, line)).max().orElse(0);
    }

    private static int bestFrom(List<Place> places, List<Integer> line) {
        int best = best(places, line);
        return places.stream().filter(p -> alike(p.line, line) == best).findFirst().orElseThrow().from;
    }

    private int[] kindAndFrom(int line) {
        Printed p = w.print.get(line);
        List<List<Place>> all = List.of(
            songs(true).stream().filter(s -> s.tale == p.tale).toList(),
            songs(true).stream().filter(s -> s.tale != p.tale).toList(),
            songs(true).stream().map(s -> new Place(s.from, s.tale, smooth(s.line, s.tale))).toList(),
            places(w.books));
        for (int kind = 0; kind < 4; kind++) {
            if (best(all.get(kind), p.line) >= w.high) return new int[] {kind, bestFrom(all.get(kind), p.line)};
        }
        boolean may = all.stream().anyMatch(places -> best(places, p.line) >= w.low);
        return new int[] {may ? 4 : 5, -1};
    }

    // ---- lines

    public long open(int what, int a, int glen, int day) {
        if (!in(what, 0, 1)) return no(-2);
        if (what == 0 ? !in(a, 0, 9) || !in(glen, 0, 15) || !in(day, 0, 9999) : !in(a, 0, 5)) return no(-3);
        List<Group> groups = what == 0 ? w.songs : w.books;
        if (groups.size() == (what == 0 ? 40 : 12)) return no(-4);
        groups.add(new Group(a, glen, day, new ArrayList<>()));
        return groups.size() - 1;
    }

    public long line(int what, int which, int tale, long words) {
        if (!in(what, 0, 2)) return no(-2);
        List<Group> groups = what == 0 ? w.songs : w.books;
        if (what < 2 && !in(which, 0, groups.size() - 1)) return no(-2);
        if (what == 2 && !in(tale, 0, 9) || list(words).isEmpty()) return no(-3);
        if (what == 2) {
            if (w.print.size() == 60) return no(-4);
            w.print.add(new Printed(tale, list(words)));
            return w.print.size() - 1;
        }
        List<List<Integer>> lines = groups.get(which).lines;
        if (lines.size() == 12) return no(-4);
        lines.add(list(words));
        return lines.size() - 1;
    }

    public long print(int day) {
        if (!in(day, 0, 9999)) return no(-3);
        int was = w.printDay;
        w.printDay = day;
        return was;
    }

    public long bounds(int high, int low) {
        if (!in(high, 1, 100) || !in(low, 1, 100) || low > high) return no(-3);
        w.high = high;
        w.low = low;
        return 0;
    }

    public long words(int what, int which, int line) {
        if (what == 2) return in(line, 0, w.print.size() - 1) ? number(w.print.get(line).line) : no(-2);
        if (what == 3 || what == 4) {
            if (!in(which, 0, w.versions.size() - 1)) return no(-2);
            return number(what == 3 ? w.versions.get(which).old : w.versions.get(which).young);
        }
        if (what != 0 && what != 1) return no(-2);
        List<Group> groups = what == 0 ? w.songs : w.books;
        if (!in(which, 0, groups.size() - 1) || !in(line, 0, groups.get(which).lines.size() - 1)) return no(-2);
        return number(groups.get(which).lines.get(line));
    }

    public long like(long a, long b) {
        return list(a).isEmpty() || list(b).isEmpty() ? no(-3) : alike(list(a), list(b));
    }

    // ---- texts

    public long feed(int a, int b, int c, int d, int e) {
        if (tape.length() + 20 > 400) return no(-4);
        for (int n : new int[] {a, b, c, d, e}) {
            for (int shift = 24; shift >= 0; shift -= 8) tape.append((char) (n >>> shift & 255));
        }
        return tape.length();
    }

    public long text(int what, int n) {
        if (!in(what, 0, 1)) return no(-2);
        if (!in(n, 0, tape.length())) return no(-3);
        String text = tape.substring(0, n);
        tape.setLength(0);
        faultKind = 0;
        faultPlace = -1;
        try {
            Parser parser = new Parser(text);
            if (what == 0) {
                w.fashion = parser.fashion();
                return w.fashion.size();
            }
            w.law = parser.law();
            return w.law.size();
        } catch (Wrong wrong) {
            faultKind = wrong.kind;
            faultPlace = wrong.place;
            return no(-10 - wrong.kind);
        }
    }

    private static final class Parser {
        private static final Pattern TOKEN = Pattern.compile("[ \n]*([a-z]+|[0-9]+|[;()])?", Pattern.DOTALL);
        private final String text;
        private final Matcher matcher;
        private int place;
        private String token;
        private int open;

        Parser(String text) {
            this.text = text;
            matcher = TOKEN.matcher(text);
            place = 0;
            step(0);
        }

        private void step(int from) {
            matcher.region(from, text.length());
            matcher.lookingAt();
            token = matcher.group(1);
            place = token == null ? matcher.end() : matcher.start(1);
            boolean atEnd = token == null && place == text.length();
            if (atEnd) token = "";
            else if (token == null || token.matches("[0-9]{4,}")) token = "?";
        }

        private void next() {
            step(place + token.length());
        }

        private boolean is(String one) {
            return token.equals(one);
        }

        private Wrong wrong(int kind) {
            return new Wrong(is("?") ? 1 : kind, place);
        }

        private void eat(String one) {
            if (!is(one)) throw wrong(2);
            next();
        }

        private boolean isNumber() {
            return token.matches("[0-9]+");
        }

        private int n(int from, int to, boolean tooMany) {
            if (!isNumber()) throw wrong(2);
            int n = Integer.parseInt(token);
            if (!in(n, from, to)) throw wrong(3);
            if (tooMany) throw wrong(4);
            next();
            return n;
        }

        List<Rule> fashion() {
            List<Rule> rules = new ArrayList<>();
            while (!is("")) {
                List<Integer> from = side(rules.size() == 12);
                eat("become");
                List<Integer> to = side(false);
                BiPredicate<List<Integer>, Integer> test = (line, tale) -> true;
                if (is("if")) {
                    next();
                    test = test();
                }
                eat(";");
                rules.add(new Rule(from, to, test));
            }
            return rules;
        }

        private List<Integer> side(boolean tooMany) {
            List<Integer> side = new ArrayList<>();
            side.add(n(1, 255, tooMany));
            while (isNumber()) side.add(n(1, 255, side.size() == 4));
            return side;
        }

        private BiPredicate<List<Integer>, Integer> test() {
            BiPredicate<List<Integer>, Integer> test = part();
            while (is("or")) {
                next();
                test = test.or(part());
            }
            return test;
        }

        private BiPredicate<List<Integer>, Integer> part() {
            BiPredicate<List<Integer>, Integer> part = fact();
            while (is("and")) {
                next();
                part = part.and(fact());
            }
            return part;
        }

        private BiPredicate<List<Integer>, Integer> fact() {
            boolean not = is("not");
            if (not || is("(")) {
                if (++open == 9) throw wrong(5);
                next();
                BiPredicate<List<Integer>, Integer> inner = not ? fact().negate() : test();
                if (!not) eat(")");
                open--;
                return inner;
            }
            String word = token;
            if (!List.of("has", "long", "tale").contains(word)) throw wrong(2);
            next();
            int n = word.equals("has") ? n(1, 255, false) : word.equals("long") ? n(1, 8, false) : n(0, 9, false);
            if (word.equals("has")) return (line, tale) -> line.contains(n);
            if (word.equals("long")) return (line, tale) -> line.size() >= n;
            return (line, tale) -> tale == n;
        }

        List<Way> law() {
            List<Way> ways = new ArrayList<>();
            while (!is("")) {
                String word = token;
                if (!List.of("lose", "move", "smooth", "say").contains(word)) throw wrong(2);
                if (ways.size() == 12) throw wrong(4);
                next();
                if (word.equals("say")) {
                    int said = n(1, 255, false);
                    eat("for");
                    ways.add(new Way(word, said, n(1, 255, false)));
                } else {
                    ways.add(new Way(word, n(0, 99, false), 0));
                }
                eat(";");
            }
            return ways;
        }
    }

    public long fault(int what) {
        return what == 0 ? faultKind : what == 1 ? faultPlace : -1;
    }

    public long smoothed(long words, int tale) {
        return list(words).isEmpty() || !in(tale, 0, 9) ? no(-3) : number(smooth(list(words), tale));
    }

    private int way(String word) {
        int chance = 0;
        for (Way way : w.law) {
            if (way.word.equals(word)) chance = way.one;
        }
        return chance;
    }

    private int said(int word) {
        return w.law.stream().filter(way -> way.word.equals("say") && way.two == word).map(Way::one).findFirst().orElse(word);
    }

    private int x;

    private boolean draw(String word) {
        x = (int) (1103515245L * x + 12345L);
        return (x >>> 16) % 100 < way(word);
    }

    public long told(int song, int glen, int day, int seed) {
        if (!in(song, 0, w.songs.size() - 1)) return no(-2);
        if (!in(glen, 0, 15) || !in(day, 0, 9999)) return no(-3);
        if (w.songs.size() == 40) return no(-4);
        x = seed;
        Group old = w.songs.get(song);
        List<List<Integer>> left = new ArrayList<>();
        for (List<Integer> line : old.lines) {
            if (draw("lose")) continue;
            List<Integer> said = line.stream().map(this::said).toList();
            left.add(draw("smooth") ? smooth(said, old.sort) : said);
        }
        if (left.isEmpty()) return no(-5);
        for (int k = 0; k < left.size() - 1; k++) {
            if (draw("move")) java.util.Collections.swap(left, k, k + 1);
        }
        w.songs.add(new Group(old.sort, glen, day, left));
        return w.songs.size() - 1;
    }

    // ---- whose

    public long whose(int line, int part) {
        return in(line, 0, w.print.size() - 1) && in(part, 0, 1) ? kindAndFrom(line)[part] : no(-2);
    }

    public long late(int song, int line) {
        if (!in(song, 0, w.songs.size() - 1) || !in(line, 0, w.songs.get(song).lines.size() - 1)) return no(-2);
        if (early(w.songs.get(song))) return no(-5);
        List<Integer> words = w.songs.get(song).lines.get(line);
        return best(songs(true), words) >= w.high ? 1 : best(printed(), words) >= w.high ? 2 : 0;
    }

    private int ofKind(int kind) {
        int many = 0;
        for (int i = 0; i < w.print.size(); i++) many += kindAndFrom(i)[0] == kind ? 1 : 0;
        return many;
    }

    public long share(int kind, int what) {
        if (!in(kind, 0, 5) || !in(what, 0, 1)) return no(-2);
        if (w.print.isEmpty()) return no(-5);
        return what == 0 ? ofKind(kind) : 1000L * ofKind(kind) / w.print.size();
    }

    public long span(int what) {
        if (!in(what, 0, 1)) return no(-2);
        if (w.print.isEmpty()) return no(-5);
        return 1000L * (ofKind(0) + ofKind(1) + ofKind(2) + (what == 1 ? ofKind(4) : 0)) / w.print.size();
    }

    private long pairs(List<Place> places, int t) {
        long many = 0;
        for (Printed p : w.print) {
            for (Place place : places) many += alike(p.line, place.line) >= t ? 1 : 0;
        }
        return many;
    }

    private List<Place> abroad() {
        return places(w.books).stream().filter(p -> p.tale > 0).toList();
    }

    public long chance(int t, int part) {
        if (!in(part, 0, 1)) return no(-2);
        if (!in(t, 1, 100)) return no(-3);
        return fraction(pairs(abroad(), t), pairs(abroad(), 0), part);
    }

    public long odds(int t, int part) {
        if (!in(part, 0, 1)) return no(-2);
        if (!in(t, 1, 100)) return no(-3);
        return fraction(pairs(songs(true), t) * pairs(abroad(), 0), pairs(songs(true), 0) * pairs(abroad(), t), part);
    }

    private int matchesOf(int book, int t) {
        return (int) w.print.stream().filter(p -> w.books.get(book).lines.stream().anyMatch(l -> alike(l, p.line) >= t)).count();
    }

    public long matches(int book, int t) {
        if (!in(book, 0, w.books.size() - 1)) return no(-2);
        return in(t, 1, 100) ? matchesOf(book, t) : no(-3);
    }

    public long most(int t, int part) {
        if (!in(part, 0, 2)) return no(-2);
        if (!in(t, 1, 100)) return no(-3);
        if (w.books.isEmpty()) return no(-5);
        List<Integer> all = new ArrayList<>();
        for (int i = 0; i < w.books.size(); i++) all.add(matchesOf(i, t));
        int most = java.util.Collections.max(all);
        if (part == 2) return all.indexOf(most);
        return fraction((long) most * all.size(), all.stream().mapToInt(Integer::intValue).sum(), part);
    }

    /** The BOOK is put in as an EARLY SONG, and THE PRINT looked at again. */
    private List<Integer> added(int book, int tale) {
        List<Integer> lines = new ArrayList<>();
        int[] before = new int[w.print.size()];
        for (int i = 0; i < before.length; i++) before[i] = kindAndFrom(i)[0];
        World was = w;
        w = w.copy();
        w.songs.add(new Group(tale, 0, w.printDay, w.books.get(book).lines));
        for (int i = 0; i < before.length; i++) {
            if (before[i] >= 3 && kindAndFrom(i)[0] <= 2) lines.add(i);
        }
        w = was;
        return lines;
    }

    public long adds(int book, int tale) {
        if (!in(book, 0, w.books.size() - 1)) return no(-2);
        return in(tale, 0, 9) ? added(book, tale).size() : no(-3);
    }

    public long added(int book, int tale, int i) {
        if (!in(book, 0, w.books.size() - 1)) return no(-2);
        if (!in(tale, 0, 9)) return no(-3);
        return in(i, 0, added(book, tale).size() - 1) ? added(book, tale).get(i) : -1;
    }

    public long year(int word, int year) {
        if (!in(word, 1, 255)) return no(-2);
        if (!in(year, 0, 9999)) return no(-3);
        Integer was = w.years.put(word, year);
        return was == null ? 0 : was;
    }

    public long version(long old, long young, int day, int tale) {
        if (!in(day, 0, 9999) || !in(tale, 0, 9) || list(old).isEmpty() || list(young).isEmpty()) return no(-3);
        if (w.versions.size() == 20) return no(-4);
        w.versions.add(new Version(list(old), list(young), day, tale));
        return w.versions.size() - 1;
    }

    public long which(int version) {
        if (!in(version, 0, w.versions.size() - 1)) return no(-2);
        Version v = w.versions.get(version);
        if (v.old.stream().anyMatch(word -> w.years.getOrDefault(word, 0) > v.day)) return 1;
        if (smooth(v.old, v.tale).equals(v.young)) return 0;
        return smooth(v.young, v.tale).equals(v.old) ? 1 : 2;
    }

    // ---- answers

    public long answer(int glen, int day, int hope, int first, int second, long words) {
        if (!in(glen, 0, 15) || !in(day, 0, 9999) || !in(hope, 0, 9) || !in(first, 0, 2) || !in(second, 0, 2)) return no(-3);
        if (words != 0 && list(words).isEmpty()) return no(-3);
        if (w.answers.size() == 60) return no(-4);
        w.answers.add(new Answer(glen, day, hope, new int[] {first, second}, list(words)));
        return w.answers.size() - 1;
    }

    private boolean isBack(Answer a) {
        return a.day > w.printDay && !a.line.isEmpty() && best(printed(), a.line) >= w.high && best(songs(true), a.line) < w.high;
    }

    public long back(int answer) {
        if (!in(answer, 0, w.answers.size() - 1)) return no(-2);
        return isBack(w.answers.get(answer)) ? 1 : 0;
    }

    public long backOdds(int answer, int part) {
        if (!in(answer, 0, w.answers.size() - 1) || !in(part, 0, 1)) return no(-2);
        Answer a = w.answers.get(answer);
        if (a.line.isEmpty() || a.day <= w.printDay) return part;
        return fraction((long) best(printed(), a.line) * (a.hope + 1), best(songs(true), a.line) * 10L, part);
    }

    public long parted(int question, boolean yes) {
        if (!in(question, 0, 1)) return no(-2);
        return w.answers.stream().filter(a -> a.said[question] == (yes ? 1 : 0) && !isBack(a)).mapToInt(a -> 10 - a.hope).sum();
    }

    public long muddled(int i) {
        List<Integer> all = new ArrayList<>();
        for (int k = 0; k < w.answers.size(); k++) {
            Answer a = w.answers.get(k);
            if (a.said[1] == 1 && !a.line.isEmpty() && best(songs(true), a.line) >= w.high && best(printed(), a.line) < w.high) all.add(k);
        }
        return i == -1 ? all.size() : in(i, 0, all.size() - 1) ? all.get(i) : -1;
    }

    public long glen(int glen, int what) {
        if (!in(glen, 0, 15) || !in(what, 0, 3)) return no(-2);
        return w.answers.stream().filter(a -> a.glen == glen)
            .filter(a -> what == 0 || what == 3 && isBack(a) || what != 3 && what != 0 && a.said[what - 1] == 1).count();
    }

    private long pair(List<Pair> pairs, int most, boolean can, int one, int two) {
        if (!can) return no(-3);
        if (pairs.size() == most) return no(-4);
        pairs.add(new Pair(one, two));
        return pairs.size();
    }

    public long paid(int day, int sum) {
        return pair(w.paid, 20, in(day, 0, 9999) && in(sum, 1, 999), day, sum);
    }

    public long pages(int day, int many) {
        return pair(w.pages, 40, in(day, 0, 9999) && in(many, 1, 99), day, many);
    }

    public long free(int from, int to) {
        return pair(w.free, 8, in(from, 0, 9999) && in(to, 0, 9999) && from <= to, from, to);
    }

    public long more(int what, int d) {
        if (!in(what, 0, 1)) return no(-2);
        if (what == 0 && !in(d, 1, 999)) return no(-3);
        long sum = 0;
        for (Pair paid : w.paid) {
            if (what == 1) sum += paid.two;
            for (Pair page : w.pages) {
                int behind = page.one - paid.one;
                if (what == 0 && behind != 0 && Math.abs(behind) <= d) sum += behind > 0 ? page.two : -page.two;
            }
        }
        return sum;
    }

    public long rate() {
        if (w.pages.isEmpty()) return no(-5);
        for (int rate = 1; rate <= 99; rate++) {
            boolean enough = true;
            long pages = 0;
            long free = 0;
            for (int day = 0; day <= 9999 && enough; day++) {
                int today = day;
                if (w.free.stream().anyMatch(f -> in(today, f.one, f.two))) free++;
                long now = w.pages.stream().filter(p -> p.one == today).mapToInt(Pair::two).sum();
                pages += now;
                enough = now == 0 || pages <= rate * free;
            }
            if (enough) return rate;
        }
        return -1;
    }

    // ---- whom to ask

    public long world(int weight) {
        if (!in(weight, 1, 99)) return no(-3);
        if (w.weights.size() == 8) return no(-4);
        w.weights.add(weight);
        return w.weights.size() - 1;
    }

    public long says(int world, int glen, int answer) {
        if (!in(world, 0, w.weights.size() - 1) || !in(glen, 0, 15)) return no(-2);
        if (!in(answer, 0, 3)) return no(-3);
        Integer was = w.says.put(100 * world + glen, answer);
        return was == null ? 0 : was;
    }

    private long[] costAndFirst(List<Integer> set, Map<List<Integer>, long[]> known) {
        if (known.containsKey(set)) return known.get(set);
        long[] best = {0, -1};
        for (int glen = 0; glen < 16; glen++) {
            Map<Integer, List<Integer>> parts = new TreeMap<>();
            for (int world : set) parts.computeIfAbsent(w.says.getOrDefault(100 * world + glen, 0), k -> new ArrayList<>()).add(world);
            if (parts.size() < 2) continue;
            long cost = set.stream().mapToInt(w.weights::get).sum();
            for (List<Integer> part : parts.values()) cost += costAndFirst(part, known)[0];
            if (best[1] < 0 || cost < best[0]) best = new long[] {cost, glen};
        }
        known.put(set, best);
        return best;
    }

    public long ask(int set, int part) {
        List<Integer> worlds = new ArrayList<>();
        for (int bit = 0; bit < 32; bit++) {
            if ((set >>> bit & 1) == 1) worlds.add(bit);
        }
        if (!in(part, 0, 1) || worlds.stream().anyMatch(b -> b >= w.weights.size())) return no(-2);
        return costAndFirst(worlds, new java.util.HashMap<>())[part];
    }

    // ---- rows, images

    public long row(int row, int sort, int n) {
        if (!in(row, 0, 3) || !in(sort, 0, 3)) return no(-2);
        if (!in(n, 0, 60)) return no(-3);
        rows[row] = new long[n];
        sorts[row] = sort;
        return 0;
    }

    public long write(int row, int i, long v) {
        if (!in(row, 0, 3)) return no(-2);
        if (rows[row] == null) return no(-6);
        if (!in(i, 0, rows[row].length - 1)) return no(-7);
        int away = 64 - (8 << sorts[row]);
        rows[row][i] = v << away >> away;
        return rows[row][i];
    }

    public long minister(int row) {
        if (!in(row, 0, 3)) return no(-2);
        if (rows[row] == null) return no(-6);
        if (rows[row].length % 5 != 0) return no(-7);
        long[] most = {15, 9999, 9, 2, 2};
        for (int i = 0; i < rows[row].length; i++) {
            if (!in(rows[row][i], 0, most[i % 5])) return no(-3);
        }
        if (w.answers.size() + rows[row].length / 5 > 60) return no(-4);
        for (int i = 0; i < rows[row].length; i += 5) {
            int[] n = new int[5];
            for (int k = 0; k < 5; k++) n[k] = (int) rows[row][i + k];
            w.answers.add(new Answer(n[0], n[1], n[2], new int[] {n[3], n[4]}, List.of()));
        }
        return rows[row].length / 5;
    }

    public long say(int line) {
        if (!in(line, 0, w.print.size() - 1)) return no(-2);
        if (w.books.isEmpty() && w.songs.stream().noneMatch(this::early)) return 0;
        int kind = kindAndFrom(line)[0];
        if (kind < 5) return new int[] {1, 1, 2, 3, 4}[kind];
        return best(songs(false), w.print.get(line).line) >= w.high ? 5 : 6;
    }

    public long image(int i) {
        if (!in(i, 0, 1)) return no(-2);
        images[i] = w.copy();
        return 0;
    }

    public long restore(int i) {
        if (!in(i, 0, 1)) return no(-2);
        if (images[i] == null) return no(-5);
        w = images[i].copy();
        return 0;
    }

    public long status(int what) {
        return in(what, 1, 7) ? refused[what] : -1;
    }

    public long count(int what) {
        if (in(what, 100, 139)) return in(what - 100, 0, w.songs.size() - 1) ? w.songs.get(what - 100).lines.size() : -1;
        if (in(what, 200, 211)) return in(what - 200, 0, w.books.size() - 1) ? w.books.get(what - 200).lines.size() : -1;
        int[] all = {w.songs.size(), w.books.size(), w.print.size(), w.answers.size(), w.versions.size(), w.paid.size(),
            w.pages.size(), w.free.size(), w.weights.size(), w.fashion.size(), w.law.size(), tape.length(), w.printDay};
        return in(what, 0, 12) ? all[what] : -1;
    }
}
