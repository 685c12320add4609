/** Promises 1 to 7: a new object, SONGS, BOOKS, THE PRINT, bounds, WORDS, LIKE. */
public final class LinesTest {
    public static void main(String[] args) {
        aNewObject();
        open();
        line();
        print();
        bounds();
        words();
        like();
        Due.end("LinesTest");
    }

    private static void aNewObject() {
        NobodysBard x = new NobodysBard();
        Due.is("1 NONE", NobodysBard.NONE, -1);
        for (int what = 0; what <= 11; what++) Due.is("1 count(" + what + ")", x.count(what), 0);
        Due.is("1 count(12)", x.count(12), 5000);
        for (int what = 1; what <= 7; what++) Due.is("1 status(" + what + ")", x.status(what), 0);
        Due.is("1 fault(0)", x.fault(0), 0);
        Due.is("1 fault(1)", x.fault(1), -1);
        Due.is("1 year", x.year(255, 7), 0);
        Due.is("1 no fashion", x.smoothed(Due.line(1, 2), 0), Due.line(1, 2));
        Due.is("1 image none", x.restore(0), -5);
        Due.is("1 row missing", x.write(3, 0, 0), -6);
        Due.is("1 status(5)", x.status(5), 1);
        Due.is("1 another object", new NobodysBard().status(5), 0);
    }

    private static void open() {
        NobodysBard x = new NobodysBard();
        Due.is("2 what -1", x.open(-1, 99, 99, -9), -2);
        Due.is("2 what 2", x.open(2, 0, 0, 0), -2);
        int[][] wrong = {{-1, 0, 0}, {10, 0, 0}, {0, -1, 0}, {0, 16, 0}, {0, 0, -1}, {0, 0, 10000}};
        for (int[] w : wrong) Due.is("2 song out of bounds", x.open(0, w[0], w[1], w[2]), -3);
        Due.is("2 land -1", x.open(1, -1, 0, 0), -3);
        Due.is("2 land 6", x.open(1, 6, 0, 0), -3);
        Due.is("2 song", x.open(0, 9, 15, 9999), 0);
        Due.is("2 song", x.open(0, 0, 0, 0), 1);
        Due.is("2 book, glen and day not asked", x.open(1, 5, 99, -99), 0);
        for (int i = 2; i < 40; i++) Due.is("2 song " + i, x.open(0, 1, 1, 1), i);
        Due.is("2 a number before full", x.open(0, 10, 1, 1), -3);
        Due.is("2 songs full", x.open(0, 1, 1, 1), -4);
        for (int i = 1; i < 12; i++) Due.is("2 book " + i, x.open(1, 0, 0, 0), i);
        Due.is("2 books full", x.open(1, 0, 0, 0), -4);
        Due.is("2 a number before full", x.open(1, 6, 0, 0), -3);
        Due.is("2 songs", x.count(0), 40);
        Due.is("2 books", x.count(1), 12);
        Due.is("2 status(4)", x.status(4), 2);
    }

    private static void line() {
        NobodysBard x = new NobodysBard();
        long one = Due.line(1);
        Due.is("3 what -1", x.line(-1, 0, 0, one), -2);
        Due.is("3 what 3", x.line(3, 0, 0, one), -2);
        Due.is("3 no song", x.line(0, 0, 0, one), -2);
        Due.is("3 no book", x.line(1, 0, 0, one), -2);
        x.open(0, 1, 1, 1);
        x.open(1, 1, 1, 1);
        Due.is("3 song -1", x.line(0, -1, 0, one), -2);
        Due.is("3 song 1", x.line(0, 1, 0, one), -2);
        Due.is("3 no words in a song", x.line(0, 0, 0, Due.line(0, 1)), -3);
        Due.is("3 no words in a book", x.line(1, 0, 0, 0), -3);
        Due.is("3 tale -1", x.line(2, 0, -1, one), -3);
        Due.is("3 tale 10", x.line(2, 0, 10, one), -3);
        Due.is("3 no words in the print", x.line(2, 0, 9, 255), -3);
        for (int i = 0; i < 12; i++) {
            Due.is("3 song, tale not asked", x.line(0, 0, 99, one), i);
            Due.is("3 book, tale not asked", x.line(1, 0, -99, one), i);
        }
        Due.is("3 song full", x.line(0, 0, 0, one), -4);
        Due.is("3 book full", x.line(1, 0, 0, one), -4);
        Due.is("3 no words before full", x.line(0, 0, 0, 0), -3);
        for (int i = 0; i < 60; i++) Due.is("3 print, which not asked", x.line(2, 77 - i, i % 10, one), i);
        Due.is("3 print full", x.line(2, 0, 0, one), -4);
        Due.is("3 tale before full", x.line(2, 0, 10, one), -3);
        Due.is("3 count(100)", x.count(100), 12);
        Due.is("3 count(200)", x.count(200), 12);
        Due.is("3 count(2)", x.count(2), 60);
    }

    private static void print() {
        NobodysBard x = new NobodysBard();
        Due.is("4 first", x.print(0), 5000);
        Due.is("4 second", x.print(9999), 0);
        Due.is("4 below", x.print(-1), -3);
        Due.is("4 above", x.print(10000), -3);
        Due.is("4 stays", x.count(12), 9999);
        x.open(0, 1, 1, 300);
        x.line(0, 0, 0, Due.line(1, 2));
        x.line(2, 0, 1, Due.line(1, 2));
        x.print(300);
        Due.is("4 early on its day", x.whose(0, 0), 0);
        x.print(299);
        Due.is("4 late a day before", x.whose(0, 0), 5);
    }

    private static void bounds() {
        NobodysBard x = new NobodysBard();
        int[][] wrong = {{0, 0}, {101, 50}, {50, 0}, {50, 51}, {-1, -1}, {100, 101}};
        for (int[] w : wrong) Due.is("5 bounds", x.bounds(w[0], w[1]), -3);
        x.open(0, 1, 1, 1);
        x.line(0, 0, 0, Due.line(1, 2, 3, 4));
        x.line(2, 0, 1, Due.line(1, 2, 3, 9));
        x.line(2, 0, 1, Due.line(1, 2, 8, 9));
        Due.is("5 75 is below 80", x.whose(0, 0), 4);
        Due.is("5 50 is by LOW", x.whose(1, 0), 4);
        Due.is("5 set", x.bounds(75, 51), 0);
        Due.is("5 75 is by HIGH", x.whose(0, 0), 0);
        Due.is("5 50 is below LOW", x.whose(1, 0), 5);
        Due.is("5 like one another", x.bounds(1, 1), 0);
        Due.is("5 greatest", x.bounds(100, 100), 0);
        Due.is("5 wrong changes nothing", x.bounds(20, 30), -3);
        Due.is("5 own", x.whose(0, 0), 5);
    }

    private static void words() {
        NobodysBard x = new NobodysBard();
        Due.is("6 nothing yet", x.words(0, 0, 0), -2);
        Due.is("6 no print line", x.words(2, 0, 0), -2);
        Due.is("6 no version", x.words(3, 0, 0), -2);
        x.open(0, 1, 1, 1);
        x.open(1, 1, 1, 1);
        x.line(0, 0, 0, Due.line(1, 2, 0, 4, 5));
        x.line(1, 0, 0, Due.line(255, 254, 253, 252, 251, 250, 249, 248));
        x.line(2, 0, 3, Due.line(7, 0, 0, 0, 0, 0, 0, 9));
        x.version(Due.line(1, 0, 2), Due.line(2, 3, 0, 1), 0, 0);
        Due.is("6 behind a 0", x.words(0, 0, 0), Due.line(1, 2));
        Due.is("6 eight", x.words(1, 0, 0), Due.line(255, 254, 253, 252, 251, 250, 249, 248));
        Due.is("6 print", x.words(2, -5, 0), Due.line(7));
        Due.is("6 old", x.words(3, 0, -5), Due.line(1));
        Due.is("6 new", x.words(4, 0, 99), Due.line(2, 3));
        int[][] wrong = {{-1, 0, 0}, {5, 0, 0}, {0, 1, 0}, {0, -1, 0}, {0, 0, 1}, {0, 0, -1}, {1, 1, 0}, {1, 0, 1},
            {2, 0, 1}, {2, 0, -1}, {3, 1, 0}, {3, -1, 0}, {4, 1, 0}, {4, -1, 0}};
        for (int[] w : wrong) Due.is("6 none such", x.words(w[0], w[1], w[2]), -2);
        Due.is("6 status(2)", x.status(2), 17);
    }

    private static void like() {
        NobodysBard x = new NobodysBard();
        Due.is("7 the same", x.like(Due.line(1), Due.line(1)), 100);
        Due.is("7 none", x.like(Due.line(1), Due.line(2)), 0);
        Due.is("7 cut", x.like(Due.line(1, 2, 3), Due.line(1, 2, 9)), 66);
        Due.is("7 by the longer one", x.like(Due.line(1), Due.line(9, 9, 1, 9, 9, 9, 9, 9)), 12);
        Due.is("7 in that order", x.like(Due.line(1, 2, 3, 4), Due.line(4, 3, 2, 1)), 25);
        Due.is("7 not side by side", x.like(Due.line(1, 9, 2, 9, 3), Due.line(1, 2, 3, 8, 8)), 60);
        Due.is("7 not greedy", x.like(Due.line(3, 1, 2), Due.line(1, 2, 3)), 66);
        Due.is("7 again and again", x.like(Due.line(1, 1, 1, 1), Due.line(1, 1)), 50);
        Due.is("7 high bytes", x.like(Due.line(200, 255, 128), Due.line(255, 128, 200)), 66);
        Due.is("7 behind a 0", x.like(Due.line(1, 0, 5), Due.line(1, 0, 6, 7)), 100);
        Due.is("7 eight", x.like(Due.line(1, 2, 3, 4, 5, 6, 7, 8), Due.line(2, 3, 4, 5, 6, 7, 8, 9)), 87);
        Due.is("7 no words", x.like(Due.line(1), Due.line(0, 1)), -3);
        Due.is("7 no words", x.like(0, Due.line(1)), -3);
        Due.is("7 status(3)", x.status(3), 2);
    }
}
