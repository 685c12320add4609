/** Promises 8 to 12: THE TAPE, FASHION and LAW as texts, their FAULTS, SMOOTHED, A SONG TOLD ON. */
public final class TextsTest {
    public static void main(String[] args) {
        feed();
        text();
        faults();
        faultOfText();
        smoothed();
        tests();
        told();
        toldByDraws();
        toldWithoutChances();
        Due.end("TextsTest");
    }

    private static void feed() {
        NobodysBard x = new NobodysBard();
        for (int i = 1; i <= 20; i++) Due.is("8 feed", x.feed(0x31206265, 0x636f6d65, 0x20323b20, 0x20202020, 0x20202020), 20 * i);
        Due.is("8 full", x.feed(0, 0, 0, 0, 0), -4);
        Due.is("8 stays", x.count(11), 400);
        Due.is("8 the highest first", x.text(0, 20), 1);
        Due.is("8 empty then", x.count(11), 0);
        Due.is("8 from the front", x.smoothed(Due.line(1), 0), Due.line(2));
    }

    private static void text() {
        NobodysBard x = new NobodysBard();
        Due.is("9 nothing read", x.text(0, 0), 0);
        Due.is("9 what 2", x.text(2, 0), -2);
        Due.is("9 what -1", x.text(-1, 99), -2);
        Due.is("9 n above", x.text(0, 1), -3);
        Due.is("9 n below", x.text(1, -1), -3);
        Due.feed(x, "1 become 2;3 become 4;");
        Due.is("9 n above, tape stays", x.text(0, 41), -3);
        Due.is("9 the tape", x.count(11), 40);
        Due.is("9 the first bytes alone", x.text(0, 11), 1);
        Due.is("9 the tape is empty", x.count(11), 0);
        Due.is("9 rules", x.count(9), 1);
        Due.is("9 a fault", Due.text(x, 0, "1 become x;"), -12);
        Due.is("9 that there was stays", x.smoothed(Due.line(1), 0), Due.line(2));
        Due.is("9 the tape is empty", x.count(11), 0);
        Due.is("9 law", Due.text(x, 1, "lose 1;say 2 for 3;\n smooth 4;move 0 ; "), 4);
        Due.is("9 ways", x.count(10), 4);
        Due.is("9 law's fault", Due.text(x, 1, "become"), -12);
        Due.is("9 ways stay", x.count(10), 4);
        Due.is("9 rules stay", x.count(9), 1);
        Due.is("9 no blanks needed", Due.text(x, 0, "1become2if has3or(long4)and not tale5;007 become 255;"), 2);
        Due.is("9 twelve rules", Due.text(x, 0, "1 become 2;".repeat(12)), 12);
        Due.is("9 twelve ways", Due.text(x, 1, "say 1 for 2;".repeat(12)), 12);
        Due.is("9 four words", Due.text(x, 0, "1 2 3 4 become 5 6 7 8;"), 1);
        Due.is("9 eight open", Due.text(x, 0, "1 become 2 if " + "not(".repeat(4) + "has 1" + ")".repeat(4) + ";"), 1);
        Due.is("9 beside one another", Due.text(x, 0, "1 become 2 if " + "not has 1 or (has 2) and ".repeat(6) + "not has 3;"), 1);
        Due.is("9 none", x.text(1, 0), 0);
        Due.is("9 no ways", x.count(10), 0);
    }

    private static void fault(int what, String text, int kind, int place) {
        NobodysBard x = new NobodysBard();
        Due.is("9 " + text, Due.text(x, what, text), -10 - kind);
        Due.is("10 " + text, x.fault(0), kind);
        Due.is("10 place in " + text, x.fault(1), place);
        Due.is("46 " + text, x.status(1), 1);
    }

    private static void faults() {
        fault(0, "1 become 2;%", 1, 11);
        fault(0, "A", 1, 0);
        fault(0, "1\tbecome 2;", 1, 1);
        fault(0, "1 become \u00e9;", 1, 9);
        fault(0, "1 become 2000;", 1, 9);
        fault(0, "1 become 2 3 4 5 0001;", 1, 17);
        fault(0, "1 become 2 if has 1 , ;", 1, 20);
        fault(0, "1", 2, 1);
        fault(0, "1  ", 2, 3);
        fault(0, ";", 2, 0);
        fault(0, "1 becomes 2;", 2, 2);
        fault(0, "1 become;", 2, 8);
        fault(0, "1 become if has 1;", 2, 9);
        fault(0, "1 become 2 if;", 2, 13);
        fault(0, "1 become 2 if has;", 2, 17);
        fault(0, "1 become 2 if has 1 has 2;", 2, 20);
        fault(0, "1 become 2 if has 1 and;", 2, 23);
        fault(0, "1 become 2 if has 1 or or has 2;", 2, 23);
        fault(0, "1 become 2 if ();", 2, 15);
        fault(0, "1 become 2 if (has 1));", 2, 21);
        fault(0, "1 become 2 if not;", 2, 17);
        fault(0, "1 become 2 become 3;", 2, 11);
        fault(0, "lose 1;", 2, 0);
        fault(0, "0 become 1;", 3, 0);
        fault(0, "1 become 256;", 3, 9);
        fault(0, "1 become 2 if has 0;", 3, 18);
        fault(0, "1 become 2 if has 256;", 3, 18);
        fault(0, "1 become 2 if long 0;", 3, 19);
        fault(0, "1 become 2 if long 9;", 3, 19);
        fault(0, "1 become 2 if tale 10;", 3, 19);
        fault(0, "1 2 3 4 0 become 1;", 3, 8);
        fault(0, "1 2 3 4 5 become 1;", 4, 8);
        fault(0, "1 become 1 2 3 4 5;", 4, 17);
        fault(0, "1 become 2;".repeat(13), 4, 132);
        fault(0, "1 become 2;".repeat(12) + "0 become 2;", 3, 132);
        fault(0, "1 become 2;".repeat(12) + "if", 2, 132);
        fault(0, "1 become 2;".repeat(12) + "1234", 1, 132);
        fault(0, "1 become 2 if " + "(".repeat(9), 5, 22);
        fault(0, "1 become 2 if " + "not(".repeat(4) + "has 1 and (", 5, 40);
        fault(0, "1 become 2 if " + "(".repeat(8) + "has 1" + ")".repeat(7) + ";", 2, 34);
        fault(1, "lose", 2, 4);
        fault(1, "lose 100;", 3, 5);
        fault(1, "move 100;", 3, 5);
        fault(1, "smooth 100;", 3, 7);
        fault(1, "lose 1 lose 2;", 2, 7);
        fault(1, "say 0 for 1;", 3, 4);
        fault(1, "say 1 for 256;", 3, 10);
        fault(1, "say 1 2;", 2, 6);
        fault(1, "say 1 for;", 2, 9);
        fault(1, "say 1 for 2", 2, 11);
        fault(1, "1 become 2;", 2, 0);
        fault(1, "for", 2, 0);
        fault(1, "say 1 for 1000;", 1, 10);
        fault(1, "lose 1;".repeat(13), 4, 84);
        fault(1, "lose 1;".repeat(12) + "not", 2, 84);
        fault(1, "lose 1;".repeat(12) + "?", 1, 84);
    }

    private static void faultOfText() {
        NobodysBard x = new NobodysBard();
        Due.text(x, 0, "1 become");
        Due.is("10 kind", x.fault(0), 2);
        Due.is("10 place", x.fault(1), 8);
        Due.is("10 others", x.fault(2), -1);
        Due.is("10 others", x.fault(-1), -1);
        x.text(0, 1);
        x.text(7, 0);
        Due.is("10 of what was read, not of what was refused", x.fault(0), 2);
        Due.text(x, 1, "lose 1;");
        Due.is("10 none any more", x.fault(0), 0);
        Due.is("10 no place", x.fault(1), -1);
    }

    private static void smooth(String fashion, int tale, long line, long want) {
        NobodysBard x = new NobodysBard();
        Due.is("11 " + fashion, Due.text(x, 0, fashion) > 0 ? 1 : 0, 1);
        Due.is("11 smoothed by " + fashion, x.smoothed(line, tale), want);
    }

    private static void smoothed() {
        NobodysBard x = new NobodysBard();
        Due.is("11 no words", x.smoothed(Due.line(0, 1), 0), -3);
        Due.is("11 tale 10", x.smoothed(Due.line(1), 10), -3);
        Due.is("11 tale -1", x.smoothed(Due.line(1), -1), -3);
        Due.is("11 status(3)", x.status(3), 3);
        Due.is("11 behind a 0", x.smoothed(Due.line(1, 0, 3), 0), Due.line(1));
        smooth("1 become 2;", 0, Due.line(1, 1, 1), Due.line(2, 2, 2));
        smooth("1 2 become 3;", 0, Due.line(9, 1, 1, 2, 8), Due.line(9, 1, 3, 8));
        smooth("1 2 become 2 1;", 0, Due.line(1, 1, 2, 2), Due.line(2, 2, 1, 1));
        smooth("1 become 1 1;", 0, Due.line(1), Due.line(1, 1, 1, 1, 1, 1, 1, 1));
        smooth("1 become 2 2 2 2;", 0, Due.line(9, 9, 9, 9, 1), Due.line(9, 9, 9, 9, 2, 2, 2, 2));
        smooth("1 become 2 2 2 2;", 0, Due.line(9, 9, 9, 9, 9, 1), Due.line(9, 9, 9, 9, 9, 1));
        smooth("1 become 2 2 2 2;1 become 3;", 0, Due.line(9, 9, 9, 9, 9, 1), Due.line(9, 9, 9, 9, 9, 3));
        smooth("5 become 5;5 become 6;", 0, Due.line(5), Due.line(6));
        smooth("1 become 3;1 become 4;", 0, Due.line(1), Due.line(3));
        smooth("2 become 4;1 become 3;", 0, Due.line(1, 2), Due.line(3, 4));
        smooth("1 become 2;2 become 1;", 0, Due.line(1), Due.line(1));
        smooth("1 become 2;2 become 3;3 become 1;", 0, Due.line(1, 1), Due.line(2, 3));
        smooth("1 become 2;2 become 3;3 become 4;4 become 5;5 become 1;", 0, Due.line(1), Due.line(3));
        smooth("7 8 become 255;", 0, Due.line(1, 2, 3, 4, 5, 6, 7, 8), Due.line(1, 2, 3, 4, 5, 6, 255));
        smooth("1 2 3 4 become 200 201 202 203;", 0, Due.line(9, 9, 9, 9, 1, 2, 3, 4), Due.line(9, 9, 9, 9, 200, 201, 202, 203));
        smooth("8 become 7 7;", 0, Due.line(1, 2, 3, 4, 5, 6, 8), Due.line(1, 2, 3, 4, 5, 6, 7, 7));
        smooth("1 1 become 1;", 0, Due.line(1, 1, 1, 1, 1, 1, 1, 1), Due.line(1));
        smooth("200 become 100;", 0, Due.line(200), Due.line(100));
    }

    private static void tests() {
        smooth("1 become 2 if has 3;", 0, Due.line(1, 3), Due.line(2, 3));
        smooth("1 become 2 if has 3;", 0, Due.line(1, 4), Due.line(1, 4));
        smooth("1 become 2 if long 3;", 0, Due.line(1, 4), Due.line(1, 4));
        smooth("1 become 2 if long 3;", 0, Due.line(1, 4, 5), Due.line(2, 4, 5));
        smooth("1 become 2 if tale 9;", 9, Due.line(1), Due.line(2));
        smooth("1 become 2 if tale 9;", 8, Due.line(1), Due.line(1));
        smooth("1 become 2 if not tale 9;", 8, Due.line(1), Due.line(2));
        smooth("1 become 2 if tale 0;", 0, Due.line(1), Due.line(2));
        // and binds more than or, not more than and
        smooth("1 become 2 if has 1 or has 3 and has 4;", 0, Due.line(1), Due.line(2));
        smooth("1 become 2 if (has 1 or has 3) and has 4;", 0, Due.line(1), Due.line(1));
        smooth("1 become 2 if has 3 and has 4 or has 1;", 0, Due.line(1), Due.line(2));
        smooth("1 become 2 if not has 3 and has 4;", 0, Due.line(1), Due.line(1));
        smooth("1 become 2 if not (has 3 and has 4);", 0, Due.line(1), Due.line(2));
        smooth("1 become 2 if not not has 1;", 0, Due.line(1), Due.line(2));
        smooth("1 become 2 if not has 3 or has 1 and not not not has 1;", 0, Due.line(1, 3), Due.line(1, 3));
        // the LINE as it is by then
        smooth("1 become 2 if has 3;2 become 5 5 if long 2;", 0, Due.line(1, 3), Due.line(5, 5, 3));
        smooth("1 become 2 2 if not has 2;", 0, Due.line(1, 1), Due.line(2, 2, 1));
    }

    private static NobodysBard song(String fashion, String law) {
        NobodysBard x = new NobodysBard();
        x.open(0, 4, 1, 100);
        x.line(0, 0, 0, Due.line(1, 2));
        x.line(0, 0, 0, Due.line(3, 4));
        x.line(0, 0, 0, Due.line(5, 1));
        Due.text(x, 0, fashion);
        Due.text(x, 1, law);
        return x;
    }

    private static void told() {
        NobodysBard x = song("", "");
        Due.is("12 no law", x.told(0, 15, 9999, 1), 1);
        for (int i = 0; i < 3; i++) Due.is("12 as it was", x.words(0, 1, i), x.words(0, 0, i));
        Due.is("12 late", x.late(1, 0), 1);
        Due.is("12 no song", x.told(2, 0, 0, 0), -2);
        Due.is("12 no song", x.told(-1, 99, 0, 0), -2);
        Due.is("12 glen", x.told(0, 16, 0, 0), -3);
        Due.is("12 glen", x.told(0, -1, 0, 0), -3);
        Due.is("12 day", x.told(0, 0, 10000, 0), -3);
        Due.is("12 day", x.told(0, 0, -1, 0), -3);
        x.open(0, 0, 0, 0);
        Due.is("12 no lines", x.told(2, 0, 0, 0), -5);
        for (int i = 3; i < 40; i++) x.told(0, 0, 0, i);
        Due.is("12 full", x.told(0, 0, 0, 0), -4);
        Due.is("12 full before none left", x.told(2, 0, 0, 0), -4);
        Due.is("12 a number before full", x.told(0, 0, -1, 0), -3);

        x = song("", "say 9 for 1;say 8 for 1;say 1 for 2;say 7 for 9;");
        x.told(0, 0, 0, 0);
        Due.is("12 said once, the first of several", x.words(0, 1, 0), Due.line(9, 1));
        Due.is("12 said", x.words(0, 1, 2), Due.line(5, 9));
        x = song("", "say 1 for 1;say 8 for 1;");
        x.told(0, 0, 0, 0);
        Due.is("12 itself, the first of several", x.words(0, 1, 0), Due.line(1, 2));

        // seed 0: the first DRAW is 0; below any chance but 0
        x = song("1 become 9 if tale 4;", "smooth 5;smooth 0;");
        x.told(0, 0, 0, 0);
        Due.is("12 a later smooth counts", x.words(0, 1, 0), Due.line(1, 2));
        x = song("", "lose 99;lose 0;");
        x.told(0, 0, 0, 0);
        Due.is("12 a later lose counts", x.count(101), 3);
    }

    /** Without lose, move, smooth no DRAW is below their chance, not even a DRAW of 0. */
    private static void toldWithoutChances() {
        NobodysBard x = null;
        for (int seed = 0; seed < 500; seed++) {
            // An object is used for 512 calls.
            if (seed % 50 == 0) {
                x = song("1 become 9;3 become 9;5 become 9;", "lose 50;smooth 50;move 50;say 1 for 2;");
                Due.text(x, 1, "say 6 for 255;say 7 for 254;");
                x.line(0, 0, 0, Due.line(255, 254));
                x.image(0);
            }
            Due.is("12 told by seed " + seed, x.told(0, 1, 1, seed), 1);
            for (int i = 0; i < 3; i++) Due.is("12 as it was by seed " + seed, x.words(0, 1, i), x.words(0, 0, i));
            Due.is("12 the last words said by seed " + seed, x.words(0, 1, 3), Due.line(6, 7));
            x.restore(0);
        }
    }

    /** Draws worked out here once more, to see which LINE each of them is for. */
    private static void toldByDraws() {
        for (int seed = -40; seed < 40; seed++) {
            int s = seed * 123456789;
            int lose = (seed & 31) * 3;
            NobodysBard x = song("8 become 9 if tale 4;", "lose " + lose + ";smooth 50;move 40;say 8 for 1;");
            long[] want = new long[3];
            long[] plain = {Due.line(8, 2), Due.line(3, 4), Due.line(5, 8)};
            long[] smooth = {Due.line(9, 2), Due.line(3, 4), Due.line(5, 9)};
            int many = 0;
            for (int i = 0; i < 3; i++) {
                s = 1103515245 * s + 12345;
                if ((s >>> 16) % 100 < lose) continue;
                s = 1103515245 * s + 12345;
                want[many++] = (s >>> 16) % 100 < 50 ? smooth[i] : plain[i];
            }
            for (int k = 0; k < many - 1; k++) {
                s = 1103515245 * s + 12345;
                if ((s >>> 16) % 100 < 40) {
                    long line = want[k];
                    want[k] = want[k + 1];
                    want[k + 1] = line;
                }
            }
            Due.is("12 told by seed " + seed, x.told(0, 2, 3, seed * 123456789), many == 0 ? -5 : 1);
            Due.is("12 lines by seed " + seed, x.count(101), many == 0 ? -1 : many);
            for (int i = 0; i < many; i++) Due.is("12 line by seed " + seed, x.words(0, 1, i), want[i]);
        }
    }
}
