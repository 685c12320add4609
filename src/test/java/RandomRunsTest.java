import java.lang.reflect.Method;
import java.util.ArrayList;
import java.util.Comparator;
import java.util.List;
import java.util.Map;
import java.util.Random;
import java.util.TreeMap;

/** Long runs of calls by fixed seeds: the class and the Model have to answer alike, call for call. */
public final class RandomRunsTest {
    private static final int RUNS = 400;
    private static final int FULL_RUNS = 3;
    private static final int CALLS = 512;
    // A text of 400 bytes: an empty text ahead of it, twenty times feed, text, and twice fault.
    private static final int MOST_AT_ONCE = 24;
    private static final List<Method> CALLED = new ArrayList<>();
    private static final Map<String, Method> WITNESS = new TreeMap<>();
    private static final Map<String, Integer> ASKED = new TreeMap<>();
    private static final Map<String, Map<Long, Integer>> ANSWERED = new TreeMap<>();

    private final Random random;
    private final NobodysBard bard = new NobodysBard();
    private final Model model = new Model();
    private final int vocabulary;
    private final int mood;
    private int calls;

    private RandomRunsTest(long seed) {
        random = new Random(seed);
        vocabulary = 2 + random.nextInt(7);
        mood = random.nextInt(6);
    }

    public static void main(String[] args) throws Exception {
        for (Method m : NobodysBard.class.getDeclaredMethods()) {
            if (java.lang.reflect.Modifier.isPublic(m.getModifiers())) CALLED.add(m);
        }
        CALLED.sort(Comparator.comparing(Method::getName));
        for (Method m : Model.class.getDeclaredMethods()) {
            if (java.lang.reflect.Modifier.isPublic(m.getModifiers())) WITNESS.put(m.getName(), m);
        }
        Due.is("methods", CALLED.size(), 46);
        for (int seed = 0; seed < RUNS; seed++) new RandomRunsTest(seed).run(seed);
        for (int seed = RUNS; seed < RUNS + FULL_RUNS; seed++) new RandomRunsTest(seed).fullRun(seed);
        for (Method m : CALLED) {
            if (ASKED.getOrDefault(m.getName(), 0) < 200) Due.is(m.getName() + " was asked too seldom", 0, 1);
        }
        came("whose", 0, 1, 2, 3, 4, 5);
        came("say", 0, 1, 2, 3, 4, 5, 6);
        came("late", -5, 0, 1, 2);
        came("which", 0, 1, 2);
        came("back", 0, 1);
        came("muddled", 1, 2, 3);
        came("fault", 0, 1, 2, 3, 4, 5);
        came("told", -5, -4, 1, 2, 3);
        came("minister", -7, -6, -4, -3, 0, 1, 2);
        came("rate", -5, -1, 1, 2, 3);
        Due.end("RandomRunsTest");
    }

    /** A run that never comes where it matters would tell nothing. */
    private static void came(String name, long... answers) {
        for (long answer : answers) {
            Due.is(name + " answered " + answer + " at times", ANSWERED.get(name).getOrDefault(answer, 0) > 2 ? 1 : 0, 1);
        }
    }

    private void run(int seed) throws Exception {
        if (seed % 3 > 0 && !begun(seed)) return;
        while (calls < CALLS - MOST_AT_ONCE) {
            if (!one(seed)) return;
        }
        Due.is("run " + seed + " has no more calls than are promised", calls <= CALLS ? 1 : 0, 1);
    }

    /** Most runs begin with some SONGS, BOOKS and LINES, so that there is something to look at. */
    private boolean begun(int seed) throws Exception {
        for (int i = 0; i < 5; i++) {
            if (!both(seed, "open", 0, random.nextInt(3), random.nextInt(16), 4998 + random.nextInt(5))) return false;
            if (i < 4 && !both(seed, "open", 1, random.nextInt(6), 0, 0)) return false;
        }
        for (int i = 0; i < 40; i++) {
            if (!both(seed, "line", i < 15 ? 0 : i < 25 ? 1 : 2, random.nextInt(i < 15 ? 5 : 4), random.nextInt(3), words())) return false;
        }
        return true;
    }

    /** As many SONGS, BOOKS, LINES and ANSWERS as can be, and then what looks at most of them: 512 calls at the most. */
    private void fullRun(int seed) throws Exception {
        boolean agree = readFull(seed) && both(seed, "open", 0, 1, 2, 4999);
        for (int i = 0; i < 12 && agree; i++) agree = both(seed, "line", 0, 0, 0, eight());
        for (int i = 1; i < 40 && agree; i++) agree = both(seed, "told", random.nextInt(i), i % 16, 4998 + random.nextInt(4), random.nextInt());
        for (int i = 0; i < 12 && agree; i++) agree = both(seed, "open", 1, i % 6, 0, 0);
        for (int i = 0; i < 144 && agree; i++) agree = both(seed, "line", 1, i / 12, 0, eight());
        for (int i = 0; i < 60 && agree; i++) {
            agree = both(seed, "line", 2, 0, i % 3, eight()) && both(seed, "answer", i % 16, 4999 + i % 4, i % 10, i % 3, 1, eight());
        }
        agree = agree && both(seed, "bounds", 70 + 10 * (seed % 3), 40);
        String[] asked = {"share", "span", "adds", "added", "chance", "odds", "most", "matches", "parted", "muddled", "glen", "late", "say", "whose", "told"};
        for (int i = 0; i < 60 && agree; i++) agree = one(seed, asked[i % asked.length]);
        Due.is("run " + seed + " has no more calls than are promised", calls <= CALLS ? 1 : 0, 1);
        Due.is("run " + seed + " is full", model.count(0) + model.count(1) + model.count(2) + model.count(3), 40 + 12 + 60 + 60);
    }

    private boolean readFull(int seed) throws Exception {
        String fashion = "9 10 become 11;10 9 become 12 if tale 1;8 become 9 if not has 13 and long 8;";
        for (int at = 0; at < fashion.length(); at += 20) {
            if (!both(seed, "feed", fed(fashion, at))) return false;
        }
        String law = "smooth 50;move 30;say 13 for 14;      ";
        return both(seed, "text", 0, fashion.length()) && both(seed, "feed", fed(law, 0)) && both(seed, "feed", fed(law, 20))
            && both(seed, "text", 1, law.length());
    }

    private static Object[] fed(String text, int at) {
        Object[] five = new Object[5];
        for (int i = 0; i < 5; i++) five[i] = four(text, at + 4 * i);
        return five;
    }

    private long eight() {
        return random.nextLong() & 0x0707070707070707L | 0x0808080808080808L;
    }

    /** False, if the two don't agree: what comes behind would tell nothing new. */
    private boolean one(int seed) throws Exception {
        return one(seed, pick());
    }

    private boolean one(int seed, String name) throws Exception {
        // what is fed at random spoils the texts that come behind it
        if (name.equals("feed") && random.nextInt(5) > 0) return true;
        if (name.equals("text") && random.nextInt(10) > 0) return readText(seed);
        Method method = CALLED.stream().filter(m -> m.getName().equals(name)).findFirst().orElseThrow();
        Class<?>[] types = method.getParameterTypes();
        Object[] arguments = new Object[types.length];
        for (int i = 0; i < types.length; i++) arguments[i] = argument(name, i, types[i]);
        return both(seed, name, arguments);
    }

    private boolean both(int seed, String name, Object... arguments) throws Exception {
        Method method = CALLED.stream().filter(m -> m.getName().equals(name)).findFirst().orElseThrow();
        long got = ((Number) method.invoke(bard, arguments)).longValue();
        long want = ((Number) WITNESS.get(name).invoke(model, arguments)).longValue();
        calls++;
        ASKED.merge(name, 1, Integer::sum);
        if (Math.abs(want) < 10) ANSWERED.computeIfAbsent(name, k -> new TreeMap<>()).merge(want, 1, Integer::sum);
        Due.is("run " + seed + ": " + name + List.of(arguments), got, want);
        return got == want;
    }

    private String pick() {
        String[] often = {
            "line line line line line line open answer whose share say told text",
            "line line line line print bounds whose whose adds added most chance odds share span",
            "text text text smoothed smoothed smoothed told line open version which which year",
            "answer answer answer row write write write minister parted muddled glen back backOdds line open",
            "paid pages pages pages free rate rate more world says says says says ask ask",
            "open line line image restore late late say words count status"};
        if (random.nextInt(3) == 0) return CALLED.get(random.nextInt(CALLED.size())).getName();
        String[] names = often[random.nextInt(4) == 0 ? random.nextInt(often.length) : mood].split(" ");
        return names[random.nextInt(names.length)];
    }

    private boolean readText(int seed) throws Exception {
        int what = random.nextInt(2);
        String text = what == 0 ? fashion() : law();
        if (random.nextInt(4) == 0) text = spoiled(text);
        if (text.length() > 400) text = text.substring(0, 400);
        long there = model.count(11);
        if (there + text.length() > 380 && !both(seed, "text", 0, 0)) return false;
        boolean empty = model.count(11) == 0;
        for (int at = 0; at < text.length(); at += 20) {
            if (!both(seed, "feed", fed(text, at))) return false;
        }
        return both(seed, "text", what, empty ? text.length() : (int) model.count(11))
            && both(seed, "fault", 0) && both(seed, "fault", 1);
    }

    private static int four(String text, int at) {
        int bytes = 0;
        for (int i = at; i < at + 4; i++) bytes = bytes << 8 | (i < text.length() ? text.charAt(i) & 255 : 32);
        return bytes;
    }

    private String spoiled(String text) {
        StringBuilder spoiled = new StringBuilder(text);
        String[] bits = {"become", "if", "or", "and", "not", "(", ")", ";", "0", "256", "1000", "12", "has", "long 9", "tale", "lose", "for",
            "say", "%", "\u0000", "\t", "\n", "\u00ff", "x", "not not not not", "((((((", "1 2 3"};
        for (int i = random.nextInt(3); i >= 0; i--) {
            int at = random.nextInt(spoiled.length() + 1);
            if (random.nextInt(3) > 0) spoiled.insert(at, random.nextBoolean() ? bits[random.nextInt(bits.length)] : " " + bits[random.nextInt(bits.length)] + " ");
            else spoiled.delete(at, Math.min(spoiled.length(), at + 1 + random.nextInt(4)));
        }
        return spoiled.toString();
    }

    private int word() {
        return random.nextInt(30) == 0 ? 1 + random.nextInt(255) : 1 + random.nextInt(vocabulary);
    }

    private String side() {
        StringBuilder side = new StringBuilder();
        int most = random.nextInt(25) == 0 ? 5 : 1 + random.nextInt(random.nextInt(3) == 0 ? 4 : 2);
        for (int i = 0; i < most; i++) side.append(word()).append(' ');
        return side.toString();
    }

    private String fashion() {
        StringBuilder text = new StringBuilder();
        int rules = random.nextInt(15) == 0 ? 13 : random.nextInt(5);
        for (int i = 0; i < rules; i++) {
            text.append(side()).append("become ").append(side());
            if (rules < 13 && random.nextInt(2) == 0) text.append("if ").append(test(0));
            text.append(random.nextBoolean() ? ";" : " ;\n");
        }
        return text.toString();
    }

    private String test(int depth) {
        StringBuilder test = new StringBuilder(fact(depth));
        for (int i = random.nextInt(depth > 1 ? 2 : 3); i > 0; i--) test.append(random.nextBoolean() ? " or " : " and ").append(fact(depth));
        return test.toString();
    }

    private String fact(int depth) {
        int sort = random.nextInt(depth > 9 ? 3 : 6);
        if (sort == 0) return "has " + word();
        if (sort == 1) return "long " + (1 + random.nextInt(8));
        if (sort == 2) return "tale " + random.nextInt(10);
        if (sort == 3) return "not " + fact(depth + 1);
        return "(" + test(depth + 1) + ")";
    }

    private String law() {
        StringBuilder text = new StringBuilder();
        for (int i = random.nextInt(15) == 0 ? 13 : random.nextInt(6); i > 0; i--) {
            int way = random.nextInt(5);
            if (way > 2) text.append("say ").append(word()).append(" for ").append(word());
            else text.append(new String[] {"lose ", "move ", "smooth "}[way]).append(random.nextInt(random.nextInt(2) == 0 ? 100 : 40));
            text.append(";");
        }
        return text.toString();
    }

    private long words() {
        if (random.nextInt(25) == 0) return random.nextBoolean() ? 0 : random.nextInt(1000);
        long words = 0;
        int length = random.nextInt(3) == 0 ? 1 + random.nextInt(8) : 2 + random.nextInt(4);
        for (int i = 0; i < 8; i++) words = words << 8 | (i < length ? word() : random.nextInt(5) == 0 && i > length ? word() : 0);
        return words;
    }

    private int within(int most) {
        int sort = random.nextInt(30);
        return sort == 0 ? -1 : sort == 1 ? most + 1 : random.nextInt(most + 1);
    }

    private int song() {
        return within(Math.max(0, (int) model.count(0) - 1));
    }

    private int book() {
        return within(Math.max(0, (int) model.count(1) - 1));
    }

    private int day() {
        return random.nextInt(3) == 0 ? within(9999) : 4995 + random.nextInt(10);
    }

    private int closeDay() {
        return random.nextInt(8) == 0 ? within(9999) : 200 + random.nextInt(40);
    }

    private Object argument(String name, int i, Class<?> type) {
        if (type == boolean.class) return random.nextBoolean();
        if (type == long.class) return name.equals("write") ? number() : words();
        switch (name) {
            case "open": return i == 0 ? within(1) : i == 1 ? random.nextInt(3) == 0 ? within(9) : random.nextInt(3) : i == 2 ? within(15) : day();
            case "line": return i == 0 ? within(2) : i == 1 ? random.nextInt(2) == 0 ? song() : book() : random.nextInt(3);
            case "print": return day();
            case "bounds": return i == 0 ? 40 + within(60) : within(60);
            case "words": return i == 0 ? within(4) : i == 1 ? song() : within(11);
            case "feed": return random.nextInt();
            case "text": return i == 0 ? within(1) : within((int) model.count(11));
            case "fault": return within(1);
            case "smoothed": return within(9);
            case "told": return i == 0 ? song() : i == 1 ? within(15) : i == 2 ? day() : random.nextInt();
            case "whose": return i == 0 ? within((int) model.count(2)) : within(1);
            case "late": return i == 0 ? song() : within(5);
            case "share": return i == 0 ? within(5) : within(1);
            case "chance": case "odds": return i == 0 ? within(100) : within(1);
            case "matches": return i == 0 ? book() : within(100);
            case "most": return i == 0 ? within(100) : within(2);
            case "adds": case "added": return i == 0 ? book() : i == 1 ? within(9) : within(4);
            case "year": return i == 0 ? word() : within(9999);
            case "version": return i == 2 ? random.nextInt(3) == 0 ? within(9999) : 9990 : within(9);
            case "which": return within(Math.max(0, (int) model.count(4) - 1));
            case "answer": return new int[] {within(random.nextInt(2) == 0 ? 15 : 3), day(), within(9), within(2), within(2)}[i];
            case "back": case "backOdds": return i == 0 ? within(Math.max(0, (int) model.count(3) - 1)) : within(1);
            case "muddled": return random.nextInt(5) - 2;
            case "glen": return i == 0 ? within(random.nextInt(2) == 0 ? 15 : 3) : within(3);
            case "paid": return i == 0 ? closeDay() : within(999);
            case "pages": return i == 0 ? closeDay() : random.nextInt(3) == 0 ? within(99) : 1 + random.nextInt(4);
            case "more": return i == 0 ? within(1) : random.nextInt(2) == 0 ? within(999) : within(20);
            case "free": return i == 0 ? closeDay() - 10 : closeDay();
            case "world": return random.nextInt(2) == 0 ? within(99) : 1 + random.nextInt(9);
            case "says": return i == 0 ? within(Math.max(0, (int) model.count(8) - 1)) : i == 1 ? within(random.nextInt(3) == 0 ? 15 : 4) : within(3);
            case "ask": return i == 0 ? within((1 << model.count(8)) - 1) : within(1);
            case "row": return i == 0 ? within(3) : i == 1 ? within(3) : random.nextInt(3) > 0 ? 5 * random.nextInt(4) : within(60);
            case "write": return i == 0 ? within(3) : within(random.nextInt(3) > 0 ? 9 : 60);
            case "minister": return within(3);
            case "say": return within((int) model.count(2));
            case "count": return random.nextInt(2) == 0 ? within(12) : random.nextInt(2) == 0 ? 98 + within(43) : 198 + within(16);
            case "status": return within(7);
            case "image": case "restore": return within(1);
            default: return within(2);
        }
    }

    private long number() {
        int sort = random.nextInt(12);
        return sort == 0 ? random.nextLong() : sort == 1 ? random.nextInt() : sort == 2 ? random.nextInt(20000) : sort < 5 ? random.nextInt(10) : random.nextInt(3);
    }
}
