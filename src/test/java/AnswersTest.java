/** Promises 26 to 39: ANSWERS, PAID, PAGES, FREE, RATE, WORLDS and whom to ask. */
public final class AnswersTest {
    private static final long OURS = Due.line(1, 2, 3, 4);
    private static final long PRINTED = Due.line(5, 6, 7, 8);
    private static final long BOTH = Due.line(1, 2, 5, 6);

    public static void main(String[] args) {
        answer();
        back();
        backOdds();
        parted();
        muddled();
        glen();
        paidAndPages();
        more();
        free();
        rate();
        world();
        ask();
        askDeeper();
        Due.end("AnswersTest");
    }

    private static void answer() {
        NobodysBard x = new NobodysBard();
        int[][] wrong = {{-1, 0, 0, 0, 0}, {16, 0, 0, 0, 0}, {0, -1, 0, 0, 0}, {0, 10000, 0, 0, 0}, {0, 0, -1, 0, 0},
            {0, 0, 10, 0, 0}, {0, 0, 0, -1, 0}, {0, 0, 0, 3, 0}, {0, 0, 0, 0, -1}, {0, 0, 0, 0, 3}};
        for (int[] w : wrong) Due.is("26 out of bounds", x.answer(w[0], w[1], w[2], w[3], w[4], 0), -3);
        Due.is("26 no words", x.answer(0, 0, 0, 0, 0, Due.line(0, 1)), -3);
        Due.is("26 least", x.answer(0, 0, 0, 0, 0, 0), 0);
        Due.is("26 greatest", x.answer(15, 9999, 9, 2, 2, Due.line(255)), 1);
        for (int i = 2; i < 60; i++) Due.is("26 number", x.answer(1, 1, 1, 1, 1, 0), i);
        Due.is("26 a number before full", x.answer(1, 1, 10, 1, 1, 0), -3);
        Due.is("26 full", x.answer(1, 1, 1, 1, 1, 0), -4);
        Due.is("26 count", x.count(3), 60);
        Due.is("26 status(3)", x.status(3), 12);
    }

    private static NobodysBard asked() {
        NobodysBard x = new NobodysBard();
        x.open(0, 1, 1, 5000);
        x.line(0, 0, 0, OURS);
        x.open(0, 1, 1, 5001);
        x.line(0, 1, 0, PRINTED);
        x.line(2, 0, 1, PRINTED);
        x.line(2, 0, 1, Due.line(20, 21));
        return x;
    }

    private static void back() {
        NobodysBard x = asked();
        Due.is("27 none", x.back(0), -2);
        Due.is("27 none", x.back(-1), -2);
        x.answer(1, 5001, 0, 1, 1, PRINTED);
        x.answer(1, 5000, 0, 1, 1, PRINTED);
        x.answer(1, 5001, 0, 1, 1, OURS);
        x.answer(1, 5001, 0, 1, 1, 0);
        x.answer(1, 5001, 0, 1, 1, Due.line(5, 6, 7));
        x.answer(1, 5001, 0, 0, 2, Due.line(5, 6, 7, 8, 9));
        Due.is("27 back", x.back(0), 1);
        Due.is("27 on the print's day", x.back(1), 0);
        Due.is("27 ours", x.back(2), 0);
        Due.is("27 no line", x.back(3), 0);
        Due.is("27 75", x.back(4), 0);
        Due.is("27 80", x.back(5), 1);
        Due.is("27 none", x.back(6), -2);
        x.bounds(75, 1);
        Due.is("27 75 by HIGH", x.back(4), 1);
        x.open(0, 1, 1, 0);
        x.line(0, 2, 0, Due.line(5, 6, 7, 9));
        Due.is("27 of an early one, too", x.back(0), 0);
        x.print(4999);
        Due.is("27 the print's day moves", x.back(1), 0);
        x.open(0, 1, 1, 0);
        x.line(2, 0, 0, Due.line(1, 2, 3, 4));
        Due.is("27 the song isn't early any more", x.back(2), 1);
    }

    private static void backOdds() {
        NobodysBard x = asked();
        x.answer(1, 5001, 9, 1, 1, BOTH);
        x.answer(1, 5001, 0, 1, 1, Due.line(9, 9));
        x.answer(1, 5000, 5, 1, 1, BOTH);
        x.answer(1, 6000, 5, 1, 1, 0);
        x.answer(1, 6000, 2, 1, 1, Due.line(5, 6, 7));
        x.answer(1, 6000, 2, 1, 1, Due.line(1));
        x.answer(1, 6000, 2, 1, 1, Due.line(1, 2, 3, 5));
        long[][] want = {{1, 1}, {0, 0}, {0, 1}, {0, 1}, {1, 0}, {0, 1}, {1, 10}};
        for (int i = 0; i < want.length; i++) {
            Due.is("28 upper of " + i, x.backOdds(i, 0), want[i][0]);
            Due.is("28 lower of " + i, x.backOdds(i, 1), want[i][1]);
        }
        Due.is("28 part", x.backOdds(0, 2), -2);
        Due.is("28 part", x.backOdds(0, -1), -2);
        Due.is("28 none", x.backOdds(7, 0), -2);
        Due.is("28 none", x.backOdds(-1, 0), -2);
    }

    private static void parted() {
        NobodysBard x = asked();
        Due.is("29 nobody asked", x.parted(0, true), 0);
        x.answer(1, 5001, 0, 1, 0, PRINTED);
        x.answer(1, 5001, 3, 1, 0, OURS);
        x.answer(1, 1, 9, 1, 2, 0);
        x.answer(1, 1, 0, 0, 1, 0);
        x.answer(1, 1, 5, 2, 1, PRINTED);
        Due.is("29 songs yes, without who is back", x.parted(0, true), 7 + 1);
        Due.is("29 songs no", x.parted(0, false), 10);
        Due.is("29 these yes", x.parted(1, true), 10 + 5);
        Due.is("29 these no", x.parted(1, false), 7);
        Due.is("29 question", x.parted(2, true), -2);
        Due.is("29 question", x.parted(-1, false), -2);
        x.print(9999);
        Due.is("29 nobody is back", x.parted(0, true), 18);
    }

    private static void muddled() {
        NobodysBard x = asked();
        Due.is("30 none", x.muddled(-1), 0);
        Due.is("30 none", x.muddled(0), -1);
        x.answer(1, 1, 0, 1, 0, OURS);
        x.answer(1, 1, 0, 0, 1, OURS);
        x.answer(1, 1, 0, 1, 1, PRINTED);
        x.answer(1, 1, 0, 1, 1, 0);
        x.answer(1, 9999, 0, 1, 1, Due.line(1, 2, 3, 4, 9));
        x.answer(1, 1, 0, 1, 2, OURS);
        x.answer(1, 1, 0, 1, 1, Due.line(1, 2, 3));
        Due.is("30 how many", x.muddled(-1), 2);
        Due.is("30 the first", x.muddled(0), 1);
        Due.is("30 the second", x.muddled(1), 4);
        Due.is("30 not so many", x.muddled(2), -1);
        Due.is("30 below", x.muddled(-2), -1);
        x.line(2, 0, 0, OURS);
        Due.is("30 of the print, too", x.muddled(-1), 0);
        Due.is("30 nothing refused", x.status(2), 0);
    }

    private static void glen() {
        NobodysBard x = asked();
        x.answer(7, 5001, 0, 1, 0, PRINTED);
        x.answer(7, 1, 0, 1, 1, 0);
        x.answer(7, 1, 0, 2, 1, 0);
        x.answer(7, 1, 0, 1, 2, 0);
        x.answer(15, 1, 0, 0, 1, 0);
        int[] want = {4, 3, 2, 1};
        for (int what = 0; what < 4; what++) Due.is("31 what " + what, x.glen(7, what), want[what]);
        Due.is("31 another", x.glen(15, 2), 1);
        Due.is("31 another", x.glen(15, 1), 0);
        Due.is("31 nobody", x.glen(0, 0), 0);
        Due.is("31 glen", x.glen(16, 0), -2);
        Due.is("31 glen", x.glen(-1, 0), -2);
        Due.is("31 what", x.glen(0, 4), -2);
        Due.is("31 what", x.glen(0, -1), -2);
    }

    private static void paidAndPages() {
        NobodysBard x = new NobodysBard();
        int[][] wrongPaid = {{-1, 1}, {10000, 1}, {0, 0}, {0, 1000}};
        for (int[] w : wrongPaid) Due.is("32 paid", x.paid(w[0], w[1]), -3);
        int[][] wrongPages = {{-1, 1}, {10000, 1}, {0, 0}, {0, 100}};
        for (int[] w : wrongPages) Due.is("33 pages", x.pages(w[0], w[1]), -3);
        for (int i = 1; i <= 20; i++) Due.is("32 paid", x.paid(i % 2 * 9999, 999), i);
        Due.is("32 full", x.paid(0, 1), -4);
        Due.is("32 a number before full", x.paid(0, 0), -3);
        for (int i = 1; i <= 40; i++) Due.is("33 pages", x.pages(i % 2 * 9999, 99), i);
        Due.is("33 full", x.pages(0, 1), -4);
        Due.is("33 a number before full", x.pages(0, 100), -3);
        Due.is("34 all", x.more(1, 0), 20 * 999);
        Due.is("47 paid", x.count(5), 20);
        Due.is("47 pages", x.count(6), 40);
    }

    private static void more() {
        NobodysBard x = new NobodysBard();
        Due.is("34 what", x.more(2, 0), -2);
        Due.is("34 what", x.more(-1, 1), -2);
        Due.is("34 d", x.more(0, 0), -3);
        Due.is("34 d", x.more(0, 1000), -3);
        Due.is("34 d isn't asked", x.more(1, -5), 0);
        Due.is("34 none", x.more(0, 1), 0);
        x.paid(1000, 3);
        x.pages(1000, 90);
        x.pages(1001, 1);
        x.pages(1005, 2);
        x.pages(1006, 4);
        x.pages(999, 8);
        x.pages(995, 16);
        x.pages(994, 32);
        x.pages(1, 64);
        Due.is("34 by 1", x.more(0, 1), 1 - 8);
        Due.is("34 by 4", x.more(0, 4), 1 - 8);
        Due.is("34 by 5", x.more(0, 5), 3 - 24);
        Due.is("34 by 6", x.more(0, 6), 7 - 56);
        Due.is("34 by 998", x.more(0, 998), 7 - 56);
        Due.is("34 by 999", x.more(0, 999), 7 - 120);
        x.paid(996, 2);
        Due.is("34 of both", x.more(0, 5), 3 - 24 + 99 - 48);
        Due.is("34 all", x.more(1, 5), 5);
        Due.is("34 below 0 isn't refused", x.status(7) + x.status(1), 0);
        Due.is("34 status(3)", x.status(3), 2);
    }

    private static void free() {
        NobodysBard x = new NobodysBard();
        int[][] wrong = {{-1, 5}, {5, 4}, {0, 10000}, {10000, 10000}, {-5, -1}};
        for (int[] w : wrong) Due.is("35 free", x.free(w[0], w[1]), -3);
        Due.is("35 one day", x.free(0, 0), 1);
        Due.is("35 all days", x.free(0, 9999), 2);
        for (int i = 3; i <= 8; i++) Due.is("35 free", x.free(i, i), i);
        Due.is("35 full", x.free(1, 1), -4);
        Due.is("35 a number before full", x.free(2, 1), -3);
        Due.is("35 count", x.count(7), 8);
    }

    private static void rate() {
        NobodysBard x = new NobodysBard();
        x.free(10, 12);
        Due.is("36 no pages", x.rate(), -5);
        x.pages(11, 2);
        Due.is("36 two on two days", x.rate(), 1);
        x.pages(11, 1);
        Due.is("36 three on two days", x.rate(), 2);
        x.pages(10, 3);
        Due.is("36 three on the first day", x.rate(), 3);
        x.free(11, 13);
        x.free(10, 10);
        x.pages(13, 6);
        Due.is("36 each day once", x.rate(), 3);
        x.pages(13, 1);
        Due.is("36 thirteen on four days", x.rate(), 4);
        x.pages(9, 1);
        Due.is("36 no free day by then", x.rate(), -1);
        x.free(0, 0);
        // 1 | 4 7 14 by days 9, 10, 11, 13, with 1 2 3 5 days
        Due.is("36 with one far before", x.rate(), 3);
        NobodysBard z = new NobodysBard();
        z.pages(0, 5);
        z.pages(9999, 1);
        z.free(0, 0);
        z.free(9999, 9999);
        Due.is("36 the first day and the last one", z.rate(), 5);
        NobodysBard y = new NobodysBard();
        y.free(5, 5);
        y.pages(5, 99);
        Due.is("36 the greatest", y.rate(), 99);
        y.pages(5, 1);
        Due.is("36 too great", y.rate(), -1);
        y.free(5, 6);
        y.free(0, 9999);
        y.free(3, 7);
        y.free(0, 4);
        Due.is("36 over one another", y.rate(), 17);
    }

    private static void world() {
        NobodysBard x = new NobodysBard();
        Due.is("37 weight 0", x.world(0), -3);
        Due.is("37 weight 100", x.world(100), -3);
        for (int i = 0; i < 8; i++) Due.is("37 number", x.world(i % 2 == 0 ? 1 : 99), i);
        Due.is("37 full", x.world(1), -4);
        Due.is("37 a number before full", x.world(0), -3);
        Due.is("37 count", x.count(8), 8);
        Due.is("38 first", x.says(7, 15, 3), 0);
        Due.is("38 then", x.says(7, 15, 0), 3);
        Due.is("38 another glen", x.says(7, 14, 1), 0);
        Due.is("38 another world", x.says(6, 15, 1), 0);
        Due.is("38 world", x.says(8, 0, 9), -2);
        Due.is("38 world", x.says(-1, 0, 0), -2);
        Due.is("38 glen", x.says(0, 16, 0), -2);
        Due.is("38 glen", x.says(0, -1, 0), -2);
        Due.is("38 answer", x.says(0, 0, 4), -3);
        Due.is("38 answer", x.says(0, 0, -1), -3);
    }

    private static void ask() {
        NobodysBard x = new NobodysBard();
        Due.is("39 none", x.ask(0, 0), 0);
        Due.is("39 none", x.ask(0, 1), -1);
        Due.is("39 not there", x.ask(1, 0), -2);
        for (int weight : new int[] {10, 20, 30, 40}) x.world(weight);
        Due.is("39 part", x.ask(0, 2), -2);
        Due.is("39 part", x.ask(0, -1), -2);
        Due.is("39 not there", x.ask(16, 0), -2);
        Due.is("39 below", x.ask(-1, 0), -2);
        Due.is("39 no glen parts", x.ask(15, 0), 0);
        Due.is("39 no glen parts", x.ask(15, 1), -1);
        x.says(3, 5, 1);
        Due.is("39 one parts off", x.ask(15, 0), 100);
        Due.is("39 the first", x.ask(15, 1), 5);
        Due.is("39 without it", x.ask(7, 0), 0);
        Due.is("39 without it", x.ask(7, 1), -1);
        x.says(0, 9, 1);
        x.says(1, 9, 2);
        x.says(2, 9, 3);
        Due.is("39 all at once", x.ask(15, 0), 100);
        Due.is("39 not the one that leaves more to ask", x.ask(15, 1), 9);
        x.says(0, 4, 3);
        x.says(1, 4, 2);
        x.says(2, 4, 1);
        Due.is("39 the least of like ones", x.ask(15, 1), 4);
        Due.is("39 one world", x.ask(8, 0), 0);
        Due.is("39 two", x.ask(9, 0), 50);
        Due.is("39 two", x.ask(9, 1), 4);
    }

    private static void askDeeper() {
        NobodysBard x = new NobodysBard();
        for (int world = 0; world < 8; world++) x.world(1 << world % 7);
        // glen k says the bit k of the world's number: halves; glen 3 parts off the heaviest alone
        for (int world = 0; world < 8; world++) {
            for (int k = 0; k < 3; k++) x.says(world, 12 - k, world >> k & 1);
        }
        Due.is("39 by halves", x.ask(255, 0), 3 * 128);
        Due.is("39 by halves", x.ask(255, 1), 10);
        x.says(6, 3, 1);
        // all 128; without world 6 64; then {0,1,2,3}, twice 15, and {4,5,7}: 49, and 33 for {5,7}, which is less than {4,5}
        Due.is("39 the heavy one first", x.ask(255, 1), 3);
        Due.is("39 its cost", x.ask(255, 0), 128 + 64 + 2 * 15 + 49 + 33);
    }
}
