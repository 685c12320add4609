import java.lang.management.ManagementFactory;
import java.util.Random;

/** Calls with any numbers at all: none throws, none makes an object, and a full object answers soon. */
public final class WildCallsTest {
    private static final int[] ODD = {Integer.MIN_VALUE, Integer.MIN_VALUE + 1, -65536, -256, -100, -12, -6, -5, -3, -2, -1, 0, 1, 2, 3, 4, 5,
        7, 8, 9, 10, 11, 12, 15, 16, 19, 20, 39, 40, 59, 60, 61, 99, 100, 101, 111, 139, 140, 199, 200, 211, 212, 255, 256, 400, 999, 1000,
        4999, 5000, 5001, 9999, 10000, 65536, Integer.MAX_VALUE - 1, Integer.MAX_VALUE};

    private static Random random;

    public static void main(String[] args) {
        for (int seed = 0; seed < 3000; seed++) wild(seed);
        garbage();
        fullOne();
        Due.end("WildCallsTest");
    }

    private static int n() {
        int sort = random.nextInt(4);
        return sort == 0 ? ODD[random.nextInt(ODD.length)] : sort == 1 ? random.nextInt() : random.nextInt(sort == 2 ? 3 : 20);
    }

    private static long words() {
        int sort = random.nextInt(6);
        if (sort == 0) return n();
        if (sort == 1) return random.nextLong();
        long line = 1 + random.nextInt(3);
        for (int i = 0; i < 7; i++) line = line << 8 | random.nextInt(i < 4 ? 4 : 2);
        return line;
    }

    private static long allocated() {
        return ((com.sun.management.ThreadMXBean) ManagementFactory.getThreadMXBean()).getThreadAllocatedBytes(Thread.currentThread().getId());
    }

    private static void wild(int seed) {
        random = new Random(seed);
        int which = -1;
        try {
            long before = allocated();
            NobodysBard x = new NobodysBard();
            long made = allocated();
            for (int i = 0; i < 512; i++) {
                which = random.nextInt(46);
                call(x, which, words(), words());
            }
            long after = allocated();
            // The first runs load classes; what they take is the machine's.
            if (seed < 10) return;
            Due.is("wild run " + seed + ": bytes in 512 calls " + (after - made), after - made < 2000 ? 1 : 0, 1);
            Due.is("wild run " + seed + ": bytes of an object " + (made - before), made - before < 100_000 ? 1 : 0, 1);
        } catch (RuntimeException | StackOverflowError thrown) {
            thrown.printStackTrace(System.out);
            Due.is("wild run " + seed + ", method " + which + " threw", 1, 0);
        }
    }

    private static long call(NobodysBard x, int which, long v, long w) {
        switch (which) {
            case 0: return x.open(n(), n(), n(), n());
            case 1: return x.line(n(), n(), n(), v);
            case 2: return x.print(n());
            case 3: return x.bounds(n(), n());
            case 4: return x.words(n(), n(), n());
            case 5: return x.like(v, w);
            case 6: return x.feed(n(), n(), n(), n(), n());
            case 7: return x.text(n(), n());
            case 8: return x.fault(n());
            case 9: return x.smoothed(v, n());
            case 10: return x.told(n(), n(), n(), n());
            case 11: return x.whose(n(), n());
            case 12: return x.late(n(), n());
            case 13: return x.share(n(), n());
            case 14: return x.span(n());
            case 15: return x.chance(n(), n());
            case 16: return x.odds(n(), n());
            case 17: return x.matches(n(), n());
            case 18: return x.most(n(), n());
            case 19: return x.adds(n(), n());
            case 20: return x.added(n(), n(), n());
            case 21: return x.year(n(), n());
            case 22: return x.version(v, w, n(), n());
            case 23: return x.which(n());
            case 24: return x.answer(n(), n(), n(), n(), n(), v);
            case 25: return x.back(n());
            case 26: return x.backOdds(n(), n());
            case 27: return x.parted(n(), n() > 0);
            case 28: return x.muddled(n());
            case 29: return x.glen(n(), n());
            case 30: return x.paid(n(), n());
            case 31: return x.pages(n(), n());
            case 32: return x.more(n(), n());
            case 33: return x.free(n(), n());
            case 34: return x.rate();
            case 35: return x.world(n());
            case 36: return x.says(n(), n(), n());
            case 37: return x.ask(n(), n());
            case 38: return x.row(n(), n(), n());
            case 39: return x.write(n(), n(), v);
            case 40: return x.minister(n());
            case 41: return x.say(n());
            case 42: return x.image(n());
            case 43: return x.restore(n());
            case 44: return x.status(n());
            default: return x.count(n());
        }
    }

    /** Texts of the longest kind: TOKENS pasted together without sense, and the deepest and widest TESTS. */
    private static void garbage() {
        String[] bits = {"become", "if", "or", "and", "not", "has", "long", "tale", "lose", "move", "smooth", "say", "for", "(", ")", ";", "1",
            "22", "333", "4444", " ", "\n", "x", "\u00ff", "\u0000"};
        for (int seed = 0; seed < 3000; seed++) {
            random = new Random(seed);
            StringBuilder text = new StringBuilder(random.nextBoolean() ? "1 become 2 if " : "");
            while (text.length() < 390) text.append(bits[random.nextInt(bits.length)]).append(random.nextBoolean() ? " " : "");
            text.setLength(400);
            NobodysBard x = new NobodysBard();
            int got = Due.text(x, seed % 2, text.toString());
            Due.is("garbage " + seed + " has a fault", got <= -11 && got >= -15 ? 1 : 0, 1);
            Due.is("garbage " + seed + " has a place", x.fault(1) >= 0 && x.fault(1) <= 400 ? 1 : 0, 1);
        }
        NobodysBard x = new NobodysBard();
        String wide = "1become 2if " + "has1or ".repeat(54) + "has1;";
        Due.is("wide", Due.text(x, 0, wide), 1);
        Due.is("wide holds", x.smoothed(Due.line(1), 0), Due.line(2));
        String all = "1become 2if " + "has1and ".repeat(47) + "has2;";
        Due.is("wide", Due.text(x, 0, all), 1);
        Due.is("wide doesn't hold", x.smoothed(Due.line(1), 0), Due.line(1));
        String deep = "1become 2if " + "has3 or has1 and(".repeat(8) + "has 1" + ")".repeat(8) + ";";
        Due.is("deep", Due.text(x, 0, deep), 1);
        Due.is("deep holds", x.smoothed(Due.line(1), 0), Due.line(2));
        Due.is("deep doesn't hold", x.smoothed(Due.line(5), 0), Due.line(5));
    }

    /** As much as can be of all, and no two LINES alike. */
    private static void fullOne() {
        NobodysBard x = new NobodysBard();
        StringBuilder fashion = new StringBuilder();
        for (int i = 0; i < 12; i++) fashion.append(i % 7 + 1).append(" become ").append((i + 1) % 7 + 1).append(" if not has 99;");
        Due.text(x, 0, fashion.toString());
        random = new Random(5);
        for (int g = 0; g < 40; g++) {
            x.open(0, g % 10, 1, 1);
            for (int i = 0; i < 12; i++) x.line(0, g, 0, eight());
        }
        for (int g = 0; g < 12; g++) {
            x.open(1, g % 6, 1, 1);
            for (int i = 0; i < 12; i++) x.line(1, g, 0, eight());
        }
        for (int i = 0; i < 60; i++) {
            x.line(2, 0, i % 10, eight());
            x.answer(1, 6000, 3, 1, 1, eight());
        }
        x.bounds(100, 100);
        long from = System.nanoTime();
        long sum = 0;
        for (int i = 0; i < 20; i++) sum += x.share(5, 0) + x.adds(3, 4) + x.odds(60, 0) + x.most(50, 2) + x.parted(0, true);
        long millis = (System.nanoTime() - from) / 1_000_000;
        Due.is("a hundred calls on a full object took " + millis + " ms, sum " + sum, millis < 60_000 ? 1 : 0, 1);
        System.out.println("a hundred calls on a full object took " + millis + " ms");
    }

    private static long eight() {
        return random.nextLong() & 0x0707070707070707L | 0x0808080808080808L;
    }
}
