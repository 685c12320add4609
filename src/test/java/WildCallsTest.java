import java.lang.management.ManagementFactory;
import java.util.Random;

/** Calls with any numbers at all, and texts without sense: none throws, and no call makes an object. */
public final class WildCallsTest {
    private static final int[] ODD = {Integer.MIN_VALUE, Integer.MIN_VALUE + 1, -65536, -256, -100, -12, -6, -5, -3, -2, -1, 0, 1, 2, 3, 4, 5,
        7, 8, 9, 10, 11, 12, 15, 16, 19, 20, 39, 40, 59, 60, 61, 99, 100, 101, 111, 139, 140, 199, 200, 211, 212, 255, 256, 400, 999, 1000,
        4999, 5000, 5001, 9999, 10000, 65536, Integer.MAX_VALUE - 1, Integer.MAX_VALUE};

    private static final int TURNS = 8;
    private static final int OBJECT = 100_000;
    private static final long MEASURING = leastMeasured() + 40;

    private static Random random;

    public static void main(String[] args) {
        for (int seed = 0; seed < 3000; seed++) wild(seed);
        garbage();
        Due.end("WildCallsTest");
    }

    private static int n() {
        int sort = random.nextInt(4);
        return sort == 0 ? ODD[random.nextInt(ODD.length)] : sort == 1 ? random.nextInt() : random.nextInt(sort == 2 ? 3 : 20);
    }

    private static long words() {
        int sort = random.nextInt(6);
        if (sort == 0) return n();
        if (sort == 1) return random.nextLong();
        long line = 1 + random.nextInt(3);
        for (int i = 0; i < 7; i++) line = line << 8 | random.nextInt(i < 4 ? 4 : 2);
        return line;
    }

    private static long allocated() {
        return ((com.sun.management.ThreadMXBean) ManagementFactory.getThreadMXBean()).getThreadAllocatedBytes(Thread.currentThread().getId());
    }

    private static long leastMeasured() {
        long least = Long.MAX_VALUE;
        for (int turn = 0; turn < TURNS; turn++) {
            long before = allocated();
            least = Math.min(least, allocated() - before);
        }
        return least;
    }

    /** What the machine makes for itself comes at some turns, what a call makes at each: so the least of some turns counts. */
    private static void wild(int seed) {
        long ofCalls = Long.MAX_VALUE;
        long ofObject = Long.MAX_VALUE;
        for (int turn = 0; turn < TURNS && (ofCalls >= MEASURING || ofObject >= OBJECT); turn++) {
            random = new Random(seed);
            long before = allocated();
            NobodysBard x = new NobodysBard();
            long made = allocated();
            if (!calls(seed, x)) return;
            ofCalls = Math.min(ofCalls, allocated() - made);
            ofObject = Math.min(ofObject, made - before);
        }
        Due.is("wild run " + seed + ": bytes in 512 calls " + ofCalls, ofCalls < MEASURING ? 1 : 0, 1);
        Due.is("wild run " + seed + ": bytes of an object " + ofObject, ofObject < OBJECT ? 1 : 0, 1);
    }

    private static boolean calls(int seed, NobodysBard x) {
        int which = -1;
        try {
            for (int i = 0; i < 512; i++) {
                which = random.nextInt(46);
                call(x, which, words(), words());
            }
            return true;
        } catch (RuntimeException | StackOverflowError thrown) {
            thrown.printStackTrace(System.out);
            Due.is("wild run " + seed + ", method " + which + " threw", 1, 0);
            return false;
        }
    }

    private static long call(NobodysBard x, int which, long v, long w) {
        switch (which) {
            case 0: return x.open(n(), n(), n(), n());
            case 1: return x.line(n(), n(), n(), v);
            case 2: return x.print(n());
            case 3: return x.bounds(n(), n());
            case 4: return x.words(n(), n(), n());
            case 5: return x.like(v, w);
            case 6: return x.feed(n(), n(), n(), n(), n());
            case 7: return x.text(n(), n());
            case 8: return x.fault(n());
            case 9: return x.smoothed(v, n());
            case 10: return x.told(n(), n(), n(), n());
            case 11: return x.whose(n(), n());
            case 12: return x.late(n(), n());
            case 13: return x.share(n(), n());
            case 14: return x.span(n());
            case 15: return x.chance(n(), n());
            case 16: return x.odds(n(), n());
            case 17: return x.matches(n(), n());
            case 18: return x.most(n(), n());
            case 19: return x.adds(n(), n());
            case 20: return x.added(n(), n(), n());
            case 21: return x.year(n(), n());
            case 22: return x.version(v, w, n(), n());
            case 23: return x.which(n());
            case 24: return x.answer(n(), n(), n(), n(), n(), v);
            case 25: return x.back(n());
            case 26: return x.backOdds(n(), n());
            case 27: return x.parted(n(), n() > 0);
            case 28: return x.muddled(n());
            case 29: return x.glen(n(), n());
            case 30: return x.paid(n(), n());
            case 31: return x.pages(n(), n());
            case 32: return x.more(n(), n());
            case 33: return x.free(n(), n());
            case 34: return x.rate();
            case 35: return x.world(n());
            case 36: return x.says(n(), n(), n());
            case 37: return x.ask(n(), n());
            case 38: return x.row(n(), n(), n());
            case 39: return x.write(n(), n(), v);
            case 40: return x.minister(n());
            case 41: return x.say(n());
            case 42: return x.image(n());
            case 43: return x.restore(n());
            case 44: return x.status(n());
            default: return x.count(n());
        }
    }

    /** Texts of the longest kind: TOKENS pasted together without sense, and the deepest and widest TESTS. */
    private static void garbage() {
        String[] bits = {"become", "if", "or", "and", "not", "has", "long", "tale", "lose", "move", "smooth", "say", "for", "(", ")", ";", "1",
            "22", "333", "4444", " ", "\n", "x", "\u00ff", "\u0000"};
        for (int seed = 0; seed < 3000; seed++) {
            random = new Random(seed);
            StringBuilder text = new StringBuilder(random.nextBoolean() ? "1 become 2 if " : "");
            while (text.length() < 390) text.append(bits[random.nextInt(bits.length)]).append(random.nextBoolean() ? " " : "");
            text.setLength(400);
            NobodysBard x = new NobodysBard();
            int got = Due.text(x, seed % 2, text.toString());
            Due.is("garbage " + seed + " has a fault", got <= -11 && got >= -15 ? 1 : 0, 1);
            Due.is("garbage " + seed + " has a place", x.fault(1) >= 0 && x.fault(1) <= 400 ? 1 : 0, 1);
        }
        NobodysBard x = new NobodysBard();
        String wide = "1become 2if " + "has1or ".repeat(54) + "has1;";
        Due.is("wide", Due.text(x, 0, wide), 1);
        Due.is("wide holds", x.smoothed(Due.line(1), 0), Due.line(2));
        String all = "1become 2if " + "has1and ".repeat(47) + "has2;";
        Due.is("wide", Due.text(x, 0, all), 1);
        Due.is("wide doesn't hold", x.smoothed(Due.line(1), 0), Due.line(1));
        String deep = "1become 2if " + "has3 or has1 and(".repeat(8) + "has 1" + ")".repeat(8) + ";";
        Due.is("deep", Due.text(x, 0, deep), 1);
        Due.is("deep holds", x.smoothed(Due.line(1), 0), Due.line(2));
        Due.is("deep doesn't hold", x.smoothed(Due.line(5), 0), Due.line(5));
    }
}
