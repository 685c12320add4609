/** "Terms", ==== 2: each sentence that names a bound of TEXTS, TOKENS, FAULTS, RULES, WAYS, SMOOTHED, DRAWS and TOLD ON. */
public final class TermsTwoTest {
    public static void main(String[] args) {
        textsOf400();
        tokens();
        numbersInBounds();
        asManyAsCanBe();
        noTokenBeginsSo();
        cannotStandThere();
        eachTokenAtEachPlace();
        tooMany();
        openAroundOneAnother();
        firstAlongTheText();
        canBeDone();
        whereTheyFirstStandSo();
        atMostTwelveTimes();
        tests();
        testsOfTwoFacts();
        testsOfThreeFacts();
        testsOfManyTexts();
        ofSeveralWays();
        draws();
        below();
        toldLineByLine();
        changePlaces();
        Due.end("TermsTwoTest");
    }

    private static void reads(int what, String text, int many) {
        NobodysBard x = new NobodysBard();
        Due.is("T2 reads " + text, Due.text(x, what, text), many);
        Due.is("T2 count of " + text, x.count(9 + what), many);
        Due.is("T2 no FAULT in " + text, x.fault(0), 0);
        Due.is("T2 no place in " + text, x.fault(1), -1);
    }

    private static void fault(int what, String text, int kind, int place) {
        NobodysBard x = new NobodysBard();
        Due.is("T2 " + text, Due.text(x, what, text), -10 - kind);
        Due.is("T2 FAULT of " + text, x.fault(0), kind);
        Due.is("T2 place in " + text, x.fault(1), place);
        Due.is("T2 nothing of " + text, x.count(9 + what), 0);
    }

    private static String padded(String text, int length) {
        return text + " ".repeat(length - text.length());
    }

    /** "Two TEXTS of at most 400 bytes": a text of none, of one, of all 400, and what stands behind the first n. */
    private static void textsOf400() {
        reads(0, "", 0);
        reads(1, "", 0);
        reads(0, " ", 0);
        reads(1, "\n", 0);
        reads(0, padded("1 become 2;", 400), 1);
        reads(0, " ".repeat(389) + "1 become 2;", 1);
        reads(1, " ".repeat(393) + "lose 1;", 1);
        fault(0, " ".repeat(390) + "1 become 2", 2, 400);
        fault(0, " ".repeat(399) + "?", 1, 399);
        fault(1, " ".repeat(399) + "a", 2, 399);
        fault(1, " ".repeat(392) + "lose 100", 3, 397);
        fault(1, "lose" + " ".repeat(396), 2, 400);
        // a TOKEN that ends with the last byte is that TOKEN
        fault(1, " ".repeat(396) + "lose", 2, 400);
        fault(1, " ".repeat(390) + "say 1  for", 2, 400);
        fault(0, " ".repeat(391) + "11 become", 2, 400);
        fault(0, " ".repeat(397) + "255", 2, 400);
        fault(0, "1 become 2 if" + " ".repeat(384) + "not", 2, 400);
        fault(0, "1 become 2 if has 1" + " ".repeat(379) + "or", 2, 400);
        fault(0, "1 become 2" + " ".repeat(388) + "if", 2, 400);
        // as many TOKENS as there can be
        for (String sign : new String[] {";", "(", ")"}) fault(0, sign.repeat(400), 2, 0);
        fault(1, "!".repeat(400), 1, 0);
        fault(0, "1 become 2 if " + "(".repeat(8) + ";".repeat(378), 2, 22);
        fault(0, "1become 2;" + ")".repeat(390), 2, 10);
        NobodysBard x = new NobodysBard();
        Due.feed(x, padded("1 become 2;?", 400));
        Due.is("T2 the FAULT is behind the first 11", x.text(0, 11), 1);
        Due.feed(x, padded("1 become 2;3 become", 400));
        Due.is("T2 cut within a TOKEN", x.text(0, 15), -12);
        Due.is("T2 what is left of it can't stand there", x.fault(1), 13);
        Due.feed(x, padded("11 become 22;", 400));
        Due.is("T2 cut within an N", x.text(0, 11), -12);
        Due.is("T2 the end is n", x.fault(1), 11);
    }

    /** "TOKENS, as long as they go on, between them blanks (10, 32)". */
    private static void tokens() {
        reads(0, "1become2;3become4if has5or not(long6and tale7);", 2);
        reads(0, "\n1\nbecome\n2\n;\n", 1);
        reads(0, "  1   become \n 2  ;  ", 1);
        reads(0, "1 become 2 if((has 1));", 1);
        reads(0, "001 become 01;", 1);
        reads(1, "lose0;move00;smooth000;say1for2;", 4);
        fault(0, "1 be come 2;", 2, 2);
        fault(0, "1 becomeif 2;", 2, 2);
        fault(0, "1 become 2 ifhas 1;", 2, 11);
        fault(0, "1 become 2 if has 1 andhas 2;", 2, 20);
        fault(1, "lo se 1;", 2, 0);
        fault(1, "say 1 fo 2;", 2, 6);
        fault(1, "losemove 1;", 2, 0);
        reads(0, "1 2become 3 4;", 1);
        NobodysBard x = new NobodysBard();
        Due.text(x, 0, "12 3 become 1 23;");
        Due.is("T2 12 3 are two Ns", x.smoothed(Due.line(12, 3), 0), Due.line(1, 23));
        Due.is("T2 and not others", x.smoothed(Due.line(1, 23), 0), Due.line(1, 23));
        Due.text(x, 0, "007 become 008;");
        Due.is("T2 007 is 7", x.smoothed(Due.line(7), 0), Due.line(8));
    }

    /** "WORDS 1 to 255 (RULES, say, for, has), chances 0 to 99 (lose, move, smooth), long 1 to 8, tale 0 to 9". */
    private static void numbersInBounds() {
        inBounds(0, "", " become 2;", 1, 255);
        inBounds(0, "1 2 3 ", " become 2;", 1, 255);
        inBounds(0, "1 become ", ";", 1, 255);
        inBounds(0, "1 become 1 1 1 ", " if has 3;", 1, 255);
        inBounds(0, "1 become 2 if has ", ";", 1, 255);
        inBounds(0, "1 become 2 if long ", ";", 1, 8);
        inBounds(0, "1 become 2 if tale ", ";", 0, 9);
        inBounds(1, "say ", " for 1;", 1, 255);
        inBounds(1, "say 1 for ", ";", 1, 255);
        inBounds(1, "lose ", ";", 0, 99);
        inBounds(1, "move ", ";", 0, 99);
        inBounds(1, "smooth ", ";", 0, 99);
    }

    private static void inBounds(int what, String ahead, String behind, int least, int greatest) {
        for (int n = 0; n <= 999; n = n == 300 ? 990 : n + 1) {
            if (n >= least && n <= greatest) reads(what, ahead + n + behind, 1);
            else fault(what, ahead + n + behind, 3, ahead.length());
        }
        fault(what, ahead + "1000" + behind, 1, ahead.length());
        fault(what, ahead + "0001" + behind, 1, ahead.length());
        fault(what, ahead + "4294967297" + behind, 1, ahead.length());
        fault(what, ahead + "x" + behind, 2, ahead.length());
    }

    /** "At most 12 RULES, 12 WAYS, 4 WORDS on each side of become." */
    private static void asManyAsCanBe() {
        for (int many = 1; many <= 12; many++) {
            reads(0, "1 become 2;".repeat(many), many);
            reads(1, "move 2;".repeat(many), many);
            reads(1, "say 1 for 2;".repeat(many), many);
        }
        for (int left = 1; left <= 4; left++) {
            for (int right = 1; right <= 4; right++) reads(0, "7 ".repeat(left) + "become" + " 8".repeat(right) + ";", 1);
        }
    }

    /** "1 no TOKEN begins so (4 digits and more: at their first)". */
    private static void noTokenBeginsSo() {
        for (int sign = 0; sign < 256; sign++) {
            char c = (char) sign;
            boolean blank = c == 10 || c == 32;
            boolean letter = c >= 'a' && c <= 'z';
            boolean digit = c >= '0' && c <= '9';
            if (blank) reads(0, "1 become 2;" + c, 1);
            else if (letter || c == ';' || c == '(' || c == ')') fault(0, "1 become 2;" + c, 2, 11);
            else if (!digit) fault(0, "1 become 2;" + c, 1, 11);
            else fault(0, "1 become 2;" + c, c == '0' ? 3 : 2, c == '0' ? 11 : 12);
            if (!blank && !letter && !digit && c != ';' && c != '(' && c != ')') {
                fault(0, "1" + c, 1, 1);
                fault(0, "1 become 2 if has" + c, 1, 17);
                fault(1, c + "lose", 1, 0);
                fault(1, "lose" + c + "1;", 1, 4);
            }
        }
        fault(0, "1234 become 2;", 1, 0);
        fault(0, "1 12345678901234567890 become 2;", 1, 2);
        fault(0, "1 become 2 0000;", 1, 11);
        fault(0, "1 become 2 if long 0008;", 1, 19);
        fault(1, "lose 0000;", 1, 5);
        fault(1, "1234", 1, 0);
    }

    /** "2 it can't stand there (the end: the text's length)": each text that ends too soon, at each of its TOKENS. */
    private static void cannotStandThere() {
        String[] rule = {"1", "2", "become", "3", "4", "if", "not", "(", "has", "1", "or", "long", "2", ")", "and", "tale", "3", ";"};
        endsTooSoon(0, rule);
        endsTooSoon(1, new String[] {"say", "1", "for", "2", ";"});
        endsTooSoon(1, new String[] {"lose", "1", ";"});
        endsTooSoon(1, new String[] {"move", "1", ";"});
        endsTooSoon(1, new String[] {"smooth", "1", ";"});
        fault(0, ";", 2, 0);
        fault(0, "become 1;", 2, 0);
        fault(0, "1 become 2;;", 2, 11);
        fault(0, "1 become;", 2, 8);
        fault(0, "1 become if has 1;", 2, 9);
        fault(0, "1 ;", 2, 2);
        fault(0, "1 if has 1;", 2, 2);
        fault(0, "1 become 2 become 3;", 2, 11);
        fault(0, "1 become 2 has 1;", 2, 11);
        fault(0, "1 become 2 if 1;", 2, 14);
        fault(0, "1 become 2 if or;", 2, 14);
        fault(0, "1 become 2 if and;", 2, 14);
        fault(0, "1 become 2 if );", 2, 14);
        fault(0, "1 become 2 if ();", 2, 15);
        fault(0, "1 become 2 if if;", 2, 14);
        fault(0, "1 become 2 if has 1 2;", 2, 20);
        fault(0, "1 become 2 if has 1 not;", 2, 20);
        fault(0, "1 become 2 if has 1 (has 2);", 2, 20);
        fault(0, "1 become 2 if has 1);", 2, 19);
        fault(0, "1 become 2 if (has 1;", 2, 20);
        fault(0, "1 become 2 if has 1 and or has 2;", 2, 24);
        fault(0, "1 become 2 if not;", 2, 17);
        fault(0, "1 become 2 if not and has 1;", 2, 18);
        fault(0, "1 become 2 if has (1);", 2, 18);
        fault(0, "1 become 2 if has 1 if has 2;", 2, 20);
        fault(1, ";", 2, 0);
        fault(1, "lose;", 2, 4);
        fault(1, "lose 1 2;", 2, 7);
        fault(1, "lose 1;;", 2, 7);
        fault(1, "say 1 for 2 3;", 2, 12);
        fault(1, "say for 1;", 2, 4);
        fault(1, "say 1 say 2;", 2, 6);
        fault(1, "1;", 2, 0);
        fault(1, "if", 2, 0);
        fault(0, "say 1 for 2;", 2, 0);
        fault(1, "1 become 2;", 2, 0);
    }

    private static void endsTooSoon(int what, String[] tokens) {
        StringBuilder text = new StringBuilder();
        for (int i = 0; i + 1 < tokens.length; i++) {
            text.append(tokens[i]).append(' ');
            fault(what, text.toString(), 2, text.length());
            fault(what, text.toString().trim(), 2, text.length() - 1);
        }
        reads(what, text + tokens[tokens.length - 1], 1);
    }

    private static final String[] TOKENS = {"1", ";", "(", ")", "become", "if", "or", "and", "not", "has", "long", "tale", "lose", "move", "smooth",
        "say", "for", "other"};

    /** What may come behind some TOKENS, by the document's RULE, WAY, TEST, PART and FACT; all else has FAULT 2 there (a 5th WORD 4). */
    private static void eachTokenAtEachPlace() {
        at(0, "", "1");
        at(0, "1", "1 become");
        at(0, "1 1 1 1", "become");
        at(0, "1 become", "1");
        at(0, "1 become 1", "1 if ;");
        at(0, "1 become 1 1 1 1", "if ;");
        at(0, "1 become 1;", "1");
        at(0, "1 become 1 if", "not ( has long tale");
        at(0, "1 become 1 if not", "not ( has long tale");
        at(0, "1 become 1 if (", "not ( has long tale");
        at(0, "1 become 1 if has", "1");
        at(0, "1 become 1 if long", "1");
        at(0, "1 become 1 if tale", "1");
        at(0, "1 become 1 if not has", "1");
        at(0, "1 become 1 if has 1", "or and ;");
        at(0, "1 become 1 if not has 1", "or and ;");
        at(0, "1 become 1 if has 1 or", "not ( has long tale");
        at(0, "1 become 1 if has 1 and", "not ( has long tale");
        at(0, "1 become 1 if (has 1", "or and )");
        at(0, "1 become 1 if (has 1 or", "not ( has long tale");
        at(0, "1 become 1 if (has 1 and", "not ( has long tale");
        at(0, "1 become 1 if (has 1)", "or and ;");
        at(0, "1 become 1 if ((has 1)", "or and )");
        at(0, "1 become 1 if not (has 1)", "or and ;");
        at(0, "1 become 1 if has 1;", "1");
        at(1, "", "lose move smooth say");
        at(1, "lose", "1");
        at(1, "move", "1");
        at(1, "smooth", "1");
        at(1, "lose 1", ";");
        at(1, "move 1", ";");
        at(1, "smooth 1", ";");
        at(1, "say", "1");
        at(1, "say 1", "for");
        at(1, "say 1 for", "1");
        at(1, "say 1 for 1", ";");
        at(1, "say 1 for 1;", "lose move smooth say");
    }

    /** What stands there is no FAULT, or none at that place. */
    private static void at(int what, String ahead, String may) {
        for (String token : TOKENS) {
            String text = ahead + " " + token;
            boolean can = java.util.Arrays.asList(may.split(" ")).contains(token);
            NobodysBard x = new NobodysBard();
            int got = Due.text(x, what, text);
            if (!can) {
                boolean fifth = token.equals("1") && ahead.endsWith("1 1 1 1");
                Due.is("T2 " + token + " behind " + ahead, got, fifth ? -14 : -12);
                Due.is("T2 its place: " + token + " behind " + ahead, x.fault(1), ahead.length() + 1);
            } else if (got < 0) {
                Due.is("T2 only the end can't stand behind " + text, got, -12);
                Due.is("T2 only the end can't stand behind " + text, x.fault(1), text.length());
            }
        }
    }

    /** "4 the first TOKEN of a 13th RULE or WAY, a 5th WORD of one side". */
    private static void tooMany() {
        String twelve = "1 become 2;".repeat(12);
        fault(0, twelve + "1 become 2;", 4, 132);
        fault(0, twelve + "  1", 4, 134);
        fault(0, twelve + "255 ?", 4, 132);
        fault(0, twelve + "256", 3, 132);
        fault(0, twelve + "become", 2, 132);
        fault(0, twelve + ";", 2, 132);
        fault(0, twelve + "1000", 1, 132);
        fault(0, twelve + "!", 1, 132);
        String ways = "lose 1;".repeat(12);
        for (String way : new String[] {"lose", "move", "smooth", "say"}) fault(1, ways + way + " 1;", 4, 84);
        fault(1, ways + "lose 100;", 4, 84);
        fault(1, ways + "for", 2, 84);
        fault(1, ways + "1", 2, 84);
        fault(1, ways + "#", 1, 84);
        fault(0, "1 2 3 4 5 become 1;", 4, 8);
        fault(0, "1 2 3 4 255", 4, 8);
        fault(0, "1 2 3 4 256 become 1;", 3, 8);
        fault(0, "1 2 3 4 0 become 1;", 3, 8);
        fault(0, "1 2 3 4 1000 become 1;", 1, 8);
        fault(0, "1 2 3 4 ; become 1;", 2, 8);
        fault(0, "1 become 1 2 3 4 5;", 4, 17);
        fault(0, "1 become 1 2 3 4 256;", 3, 17);
        fault(0, "1 become 1 2 3 4 become;", 2, 17);
        fault(0, "1 become 2;3 4 5 6 7 become 8;", 4, 19);
    }

    /** "5 the 9th not or ( that are open around one another": eight may be, and those that are closed don't count. */
    private static void openAroundOneAnother() {
        String if1 = "1 become 2 if ";
        for (int nots = 0; nots <= 8; nots++) {
            String eight = "not ".repeat(nots) + "(".repeat(8 - nots);
            reads(0, if1 + eight + "has 1" + ")".repeat(8 - nots) + ";", 1);
            fault(0, if1 + eight + "not has 1" + ")".repeat(8 - nots) + ";", 5, if1.length() + eight.length());
            fault(0, if1 + eight + "(has 1)" + ")".repeat(8 - nots) + ";", 5, if1.length() + eight.length());
            String turned = "(".repeat(8 - nots) + "not ".repeat(nots);
            reads(0, if1 + turned + "has 1" + ")".repeat(8 - nots) + ";", 1);
            fault(0, if1 + turned + "not", 5, if1.length() + turned.length());
            fault(0, if1 + turned + "(", 5, if1.length() + turned.length());
            // what can't stand there is the lesser FAULT, and so is what no TOKEN begins with
            fault(0, if1 + turned + "and", 2, if1.length() + turned.length());
            fault(0, if1 + turned + "[", 1, if1.length() + turned.length());
        }
        reads(0, if1 + "not has 1 and ".repeat(20) + "not has 2;", 1);
        reads(0, if1 + "(has 1)or".repeat(20) + "(has 2);", 1);
        reads(0, if1 + "not(not(not(not has 1)))and not(not(not(not has 1)));", 1);
        String closed = "((((((((has 1))))))))and not not not not not not not ";
        reads(0, if1 + closed + "not has 1;", 1);
        fault(0, if1 + closed + "not not has 1;", 5, if1.length() + closed.length() + 4);
        // a not is open around its FACT alone: behind it, within the same (, there is one less
        String seven = "(((((((not has 1 or ";
        reads(0, if1 + seven + "not has 2" + ")".repeat(7) + ";", 1);
        fault(0, if1 + seven + "not not has 2", 5, if1.length() + seven.length() + 4);
        reads(0, "1 become 2 if ((((((((has 1))))))));".repeat(10), 10);
    }

    /** "FAULTS, the first along the text, of one TOKEN the least kind". */
    private static void firstAlongTheText() {
        fault(0, "0 become ?", 3, 0);
        fault(0, "256 1000", 3, 0);
        fault(0, "1 1 1 1 1 ?", 4, 8);
        fault(0, "1 become 2 if " + "(".repeat(9) + "?", 5, 22);
        fault(0, "1 become 2 if long 9 become 0 ?", 3, 19);
        fault(0, "become 0 1000 ?", 2, 0);
        fault(0, "? become 0", 1, 0);
        fault(0, "1 become 2;3 become 300;4 5 6 7 8 become 9;", 3, 20);
        fault(0, "1 become 2;4 5 6 7 8 become 9;3 become 300;", 4, 19);
        fault(1, "lose 100;?", 3, 5);
        fault(1, "say 256 of 0;", 3, 4);
        fault(1, "say 1 of 0;", 2, 6);
    }

    private static void smooth(String fashion, int tale, long line, long want) {
        NobodysBard x = new NobodysBard();
        Due.is("T2 " + fashion + " reads", Due.text(x, 0, fashion) > 0 ? 1 : 0, 1);
        Due.is("T2 " + fashion + " of " + Long.toHexString(line), x.smoothed(line, tale), want);
    }

    /** "its first WORDS stand there side by side, and the LINE ... is another LINE of 1 to 8 WORDS". */
    private static void canBeDone() {
        smooth("1 2 become 9;", 0, Due.line(1, 3, 2), Due.line(1, 3, 2));
        smooth("1 2 become 9;", 0, Due.line(2, 1), Due.line(2, 1));
        smooth("1 2 become 9;", 0, Due.line(1), Due.line(1));
        smooth("1 2 3 4 become 9;", 0, Due.line(1, 2, 3), Due.line(1, 2, 3));
        smooth("1 2 3 4 become 9;", 0, Due.line(1, 2, 3, 4), Due.line(9));
        smooth("1 2 3 4 become 9;", 0, Due.line(8, 8, 8, 8, 1, 2, 3, 4), Due.line(8, 8, 8, 8, 9));
        smooth("1 2 3 4 become 9;", 0, Due.line(8, 8, 8, 8, 8, 1, 2, 3), Due.line(8, 8, 8, 8, 8, 1, 2, 3));
        for (int length = 1; length <= 8; length++) {
            for (int to = 1; to <= 4; to++) {
                int[] line = new int[length];
                java.util.Arrays.fill(line, 9);
                line[0] = 1;
                int[] want = new int[length - 1 + to];
                java.util.Arrays.fill(want, 9);
                for (int i = 0; i < to; i++) want[i] = 20 + i;
                StringBuilder rule = new StringBuilder("1 become ");
                for (int i = 0; i < to; i++) rule.append(20 + i).append(' ');
                boolean can = want.length <= 8;
                smooth(rule + ";", 0, Due.line(line), can ? Due.line(want) : Due.line(line));
                // one that can't be done makes room for the next one
                line[0] = 1;
                int[] next = line.clone();
                next[0] = 30;
                smooth(rule + ";1 become 30;", 0, Due.line(line), can ? Due.line(want) : Due.line(next));
            }
        }
        smooth("1 become 1;", 0, Due.line(1), Due.line(1));
        smooth("1 2 become 1 2;1 become 3;", 0, Due.line(1, 2), Due.line(3, 2));
        smooth("1 2 1 become 1 2 1;2 become 3;", 0, Due.line(1, 2, 1), Due.line(1, 3, 1));
        smooth("255 become 128;", 0, Due.line(255, 1), Due.line(128, 1));
        smooth("1 2 3 4 become 5 6 7 8;", 0, Due.line(1, 2, 3, 4, 1, 2, 3, 4), Due.line(5, 6, 7, 8, 5, 6, 7, 8));
    }

    /** "with the others in their place where they first stand so". */
    private static void whereTheyFirstStandSo() {
        smooth("1 1 become 2;", 0, Due.line(1, 1, 1), Due.line(2, 1));
        smooth("1 2 become 3 if not has 3;", 0, Due.line(1, 2, 1, 2), Due.line(3, 1, 2));
        smooth("1 2 become 3 if not has 3;", 0, Due.line(1, 1, 2, 1, 2), Due.line(1, 3, 1, 2));
        smooth("1 become 3 if not has 3;", 0, Due.line(2, 1, 1), Due.line(2, 3, 1));
        smooth("1 2 become 2 1 if long 4;", 0, Due.line(1, 2, 1, 2), Due.line(2, 2, 1, 1));
        smooth("2 1 2 become 7 if not has 7;", 0, Due.line(2, 1, 2, 1, 2), Due.line(7, 1, 2));
        smooth("1 2 become 9 9 9 if not has 9;", 0, Due.line(1, 2, 3, 1, 2, 4, 5), Due.line(9, 9, 9, 3, 1, 2, 4, 5));
    }

    /** "the first RULE that CAN be done is done, again and again, at most 12 times". */
    private static void atMostTwelveTimes() {
        for (int round = 2; round <= 12; round++) {
            StringBuilder rules = new StringBuilder();
            for (int i = 1; i <= round; i++) rules.append(i).append(" become ").append(i % round + 1).append(';');
            smooth(rules.toString(), 0, Due.line(1), Due.line(12 % round + 1));
        }
        StringBuilder chain = new StringBuilder();
        for (int i = 1; i <= 12; i++) chain.append(i).append(" become ").append(i + 1).append(';');
        smooth(chain.toString(), 0, Due.line(1), Due.line(13));
        smooth(chain.toString(), 0, Due.line(2), Due.line(13));
        // eight WORDS, each of them two steps: twelve of the sixteen
        smooth("1 become 2;2 become 3;", 0, Due.line(1, 1, 1, 1, 1, 1, 1, 1), Due.line(3, 3, 3, 3, 2, 2, 2, 2));
        // the first RULE again ahead of the second one, each time
        smooth("2 become 3;1 become 2;", 0, Due.line(1, 1, 1, 1, 1, 1, 1, 1), Due.line(3, 3, 3, 3, 3, 3, 1, 1));
        smooth("1 become 1 1;", 0, Due.line(1), Due.line(1, 1, 1, 1, 1, 1, 1, 1));
    }

    /** "has: the LINE has that WORD; long: so many WORDS or more; tale: it is of that TALE". */
    private static void tests() {
        for (int n = 1; n <= 8; n++) {
            for (int length = 1; length <= 8; length++) {
                int[] line = new int[length];
                java.util.Arrays.fill(line, 9);
                line[length - 1] = 1;
                int[] want = line.clone();
                if (length >= n) want[length - 1] = 2;
                smooth("1 become 2 if long " + n + ";", 0, Due.line(line), Due.line(want));
            }
        }
        for (int tale = 0; tale <= 9; tale++) {
            for (int of = 0; of <= 9; of++) smooth("1 become 2 if tale " + tale + ";", of, Due.line(1), Due.line(tale == of ? 2 : 1));
        }
        for (int at = 0; at < 8; at++) {
            int[] line = {1, 9, 9, 9, 9, 9, 9, 9};
            if (at > 0) line[at] = 255;
            int[] want = line.clone();
            if (at > 0) want[0] = 2;
            smooth("1 become 2 if has 255;", 0, Due.line(line), Due.line(want));
        }
        // what is behind a 0 is neither a WORD that the LINE has nor one that makes it longer
        smooth("1 become 2 if has 255;", 0, Due.line(1, 9, 0, 255), Due.line(1, 9));
        smooth("1 become 2 if long 3;", 0, Due.line(1, 9, 0, 1), Due.line(1, 9));
        smooth("1 become 2 if not has 255 and not long 3;", 0, Due.line(1, 9, 0, 255, 255), Due.line(2, 9));
        smooth("9 255 become 2;", 0, Due.line(1, 9, 0, 255), Due.line(1, 9));
        smooth("9 become 3 4 5 6;", 0, Due.line(1, 9, 0, 2, 2, 2, 2, 2), Due.line(1, 3, 4, 5, 6));
        // of the LINE as it is by then, not as it was told
        smooth("1 become 2 if has 1;3 become 4 if has 1;", 0, Due.line(1, 3), Due.line(2, 3));
        smooth("3 3 become 3;1 become 2 if long 3;", 0, Due.line(1, 3, 3), Due.line(1, 3));
    }

    /** FACTS of the LINE 1 2 3 of TALE 4, with whether they hold. */
    private static final String[] HOLD = {"has 1", "has 3", "long 3", "tale 4", "not has 4", "not tale 5", "not long 4", "(has 2)", "not (long 8)", "(not not tale 4)"};
    private static final String[] DONT = {"has 4", "has 255", "long 4", "tale 5", "not has 1", "not tale 4", "not long 1", "(has 9)", "not (long 1)", "(not not tale 0)"};

    private static String fact(int k) {
        return k < HOLD.length ? HOLD[k] : DONT[k - HOLD.length];
    }

    private static void holds(String test, boolean want) {
        smooth("1 become 7 if " + test + ";", 4, Due.line(1, 2, 3), want ? Due.line(7, 2, 3) : Due.line(1, 2, 3));
    }

    /** "TEST: PART { or PART }.   PART: FACT { and FACT }": each two FACTS, of each kind at each side. */
    private static void testsOfTwoFacts() {
        int all = HOLD.length + DONT.length;
        for (int a = 0; a < all; a++) {
            boolean one = a < HOLD.length;
            holds(fact(a), one);
            holds("(" + fact(a) + ")", one);
            holds("not (" + fact(a) + ")", !one);
            holds("not " + fact(a), !one);
            for (int b = 0; b < all; b++) {
                boolean two = b < HOLD.length;
                holds(fact(a) + " and " + fact(b), one && two);
                holds(fact(a) + " or " + fact(b), one || two);
                holds("not (" + fact(a) + " and " + fact(b) + ")", !(one && two));
                holds("not (" + fact(a) + " or " + fact(b) + ")", !(one || two));
                // not is of the FACT behind it alone
                holds("not " + fact(a) + " and " + fact(b), !one && two);
                holds("not " + fact(a) + " or " + fact(b), !one || two);
            }
        }
    }

    /** and holds together what or parts, wherever they stand; ( ) holds together more. */
    private static void testsOfThreeFacts() {
        for (int k = 0; k < 8; k++) {
            boolean a = (k & 1) == 1;
            boolean b = (k & 2) == 2;
            boolean c = (k & 4) == 4;
            for (int sort = 0; sort < 4; sort++) {
                String one = (a ? HOLD : DONT)[sort];
                String two = (b ? HOLD : DONT)[(sort + 2) % 4];
                String three = (c ? HOLD : DONT)[(sort + 3) % 4];
                holds(one + " and " + two + " and " + three, a && b && c);
                holds(one + " or " + two + " or " + three, a || b || c);
                holds(one + " and " + two + " or " + three, a && b || c);
                holds(one + " or " + two + " and " + three, a || b && c);
                holds("(" + one + " or " + two + ") and " + three, (a || b) && c);
                holds(one + " and (" + two + " or " + three + ")", a && (b || c));
                holds("(" + one + " and " + two + ") or " + three, a && b || c);
                holds(one + " or (" + two + " and " + three + ")", a || b && c);
                holds(one + " and not (" + two + " or " + three + ")", a && !(b || c));
                holds(one + " or not (" + two + " and " + three + ")", a || !(b && c));
                holds("((" + one + ") and ((" + two + "))) or (" + three + ")", a && b || c);
                holds(one + " and " + two + " or " + three + " and " + one, a && b || c && a);
                holds("not (" + one + " and (" + two + " or not " + three + "))", !(a && (b || !c)));
            }
        }
    }

    /** A text in place of another: nothing of the other's TESTS is left, however often. */
    private static void testsOfManyTexts() {
        NobodysBard x = new NobodysBard();
        String wide = "1become2if " + "not has1or ".repeat(34) + "has3;";
        for (int i = 0; i < 20; i++) {
            Due.is("T2 text " + i, Due.text(x, 0, wide), 1);
            Due.is("T2 text " + i + " holds", x.smoothed(Due.line(1, 3), 0), Due.line(2, 3));
            Due.is("T2 text " + i + " doesn't hold", x.smoothed(Due.line(1, 4), 0), Due.line(1, 4));
        }
        Due.is("T2 without a TEST", Due.text(x, 0, "1 become 5;"), 1);
        Due.is("T2 without a TEST", x.smoothed(Due.line(1, 4), 0), Due.line(5, 4));
    }

    // ---- LAW

    private static NobodysBard song(String law, long... lines) {
        NobodysBard x = new NobodysBard();
        x.open(0, 4, 1, 100);
        for (long line : lines) x.line(0, 0, 0, line);
        Due.is("T2 " + law, Due.text(x, 1, law) >= 0 ? 1 : 0, 1);
        return x;
    }

    /** A seed whose k-th DRAW (from 1 on) is d. */
    private static int seedOf(int k, int d) {
        for (int seed = 0; seed < 1_000_000; seed++) {
            int x = seed;
            for (int i = 0; i < k; i++) x = 1103515245 * x + 12345;
            if ((x >>> 16) % 100 == d) return seed;
        }
        throw new IllegalStateException("no seed");
    }

    /** "A later lose, move, smooth counts (0 without); of several say for one WORD the first." */
    private static void ofSeveralWays() {
        int never = seedOf(1, 99);
        int always = seedOf(1, 0);
        NobodysBard x = song("lose 0;lose 99;", Due.line(1));
        Due.is("T2 the later lose", x.told(0, 0, 0, always), -5);
        x = song("lose 99;lose 0;", Due.line(1));
        Due.is("T2 the later lose, 0", x.told(0, 0, 0, always), 1);
        x = song("", Due.line(1));
        Due.is("T2 without lose", x.told(0, 0, 0, always), 1);
        x = song("lose 99;", Due.line(1));
        Due.is("T2 99 isn't below 99", x.told(0, 0, 0, never), 1);
        for (String law : new String[] {"smooth 0;smooth 99;", "smooth 99;smooth 0;", ""}) {
            x = song(law, Due.line(1));
            Due.text(x, 0, "1 become 2;");
            x.told(0, 0, 0, seedOf(2, 0));
            Due.is("T2 the later smooth of " + law, x.words(0, 1, 0), Due.line(law.endsWith("99;") ? 2 : 1));
        }
        for (String law : new String[] {"move 0;move 99;", "move 99;move 0;", ""}) {
            x = song(law, Due.line(1), Due.line(2));
            x.told(0, 0, 0, seedOf(5, 0));
            Due.is("T2 the later move of " + law, x.words(0, 1, 0), Due.line(law.endsWith("99;") ? 2 : 1));
        }
        x = song("say 5 for 1;say 6 for 1;say 1 for 5;say 7 for 255;say 255 for 8;", Due.line(1, 5, 6, 255, 8, 1));
        x.told(0, 0, 0, 0);
        Due.is("T2 the first say, once", x.words(0, 1, 0), Due.line(5, 1, 6, 7, 255, 5));
        x = song("say 1 for 1;say 6 for 1;", Due.line(1));
        x.told(0, 0, 0, 0);
        Due.is("T2 the first say, of itself", x.words(0, 1, 0), Due.line(1));
        // a LAW in place of another leaves nothing of it
        Due.text(x, 1, "lose 99;smooth 99;move 99;say 9 for 1;");
        Due.text(x, 1, "say 3 for 2;");
        x.told(0, 0, 0, always);
        Due.is("T2 nothing of the other LAW", x.words(0, 2, 0), Due.line(1));
    }

    /** "x (an int ...) becomes 1103515245 x + 12345 (with wrap-around); it is (x >>> 16) modulo 100": by chances around each DRAW. */
    private static void draws() {
        int[] seeds = {0, 1, -1, 2, 65535, 65536, 1 << 30, Integer.MAX_VALUE, Integer.MIN_VALUE, Integer.MIN_VALUE + 1, 123456789, -987654321};
        for (int seed : seeds) {
            long x = (1103515245L * seed + 12345L) & 0xffffffffL;
            int draw = (int) ((x >> 16) % 100);
            for (int chance = Math.max(0, draw - 1); chance <= Math.min(99, draw + 1); chance++) {
                NobodysBard y = song("lose " + chance + ";", Due.line(1));
                Due.is("T2 seed " + seed + ", lose " + chance + ", DRAW " + draw, y.told(0, 0, 0, seed), draw < chance ? -5 : 1);
            }
        }
    }

    /** "with a DRAW below": at the DRAW and at one more, of lose, smooth and move, for each chance there is. */
    private static void below() {
        for (int chance = 0; chance <= 99; chance++) {
            NobodysBard x = song("lose " + chance + ";", Due.line(1));
            x.image(0);
            if (chance > 0) Due.is("T2 lose " + chance + " above", x.told(0, 0, 0, seedOf(1, chance - 1)), -5);
            Due.is("T2 lose " + chance + " at", x.told(0, 0, 0, seedOf(1, chance)), 1);
            x = song("smooth " + chance + ";", Due.line(1));
            Due.text(x, 0, "1 become 2;");
            if (chance > 0) x.told(0, 0, 0, seedOf(2, chance - 1));
            else x.told(0, 0, 0, seedOf(2, 99));
            x.told(0, 0, 0, seedOf(2, chance));
            Due.is("T2 smooth " + chance + " above", x.words(0, 1, 0), Due.line(chance > 0 ? 2 : 1));
            Due.is("T2 smooth " + chance + " at", x.words(0, 2, 0), Due.line(1));
            x = song("move " + chance + ";", Due.line(1), Due.line(2));
            // two LINES take two DRAWS each ahead of the first one for move
            x.told(0, 0, 0, seedOf(5, chance == 0 ? 99 : chance - 1));
            x.told(0, 0, 0, seedOf(5, chance));
            Due.is("T2 move " + chance + " above", x.words(0, 1, 0), Due.line(chance > 0 ? 2 : 1));
            Due.is("T2 move " + chance + " at", x.words(0, 2, 0), Due.line(1));
        }
    }

    /** "LINE by LINE ... it is gone; else ...": a LINE that is gone takes one DRAW, another one two; said first, then SMOOTHED. */
    private static void toldLineByLine() {
        NobodysBard x = song("smooth 99;say 1 for 2;", Due.line(2), Due.line(3));
        Due.text(x, 0, "1 become 9 if tale 4;2 become 8;3 become 7 if tale 5;");
        int seed = seedOf(2, 0);
        x.told(0, 15, 9999, seed);
        Due.is("T2 said, then SMOOTHED", x.words(0, 1, 0), Due.line(9));
        Due.is("T2 of the SONG's TALE", x.words(0, 1, 1), Due.line(3));
        Due.is("T2 a SONG more", x.count(0), 2);
        Due.is("T2 of that DAY: LATE", x.late(1, 0), 0);
        x.line(2, 0, 4, Due.line(9));
        x.print(9999);
        Due.is("T2 of its TALE", x.whose(0, 0), 0);
        Due.is("T2 from the one TOLD ON", x.whose(0, 1), 100);
        Due.is("T2 the other one stays", x.words(0, 0, 0), Due.line(2));
        // twelve LINES, each with its own DRAWS, worked out here once more
        long[] lines = new long[12];
        for (int i = 0; i < 12; i++) lines[i] = Due.line(100 + i);
        for (int start = 0; start < 40; start++) {
            x = song("lose 50;", lines);
            int draw = start * 7919;
            int many = 0;
            for (int i = 0; i < 12; i++) {
                draw = 1103515245 * draw + 12345;
                if ((draw >>> 16) % 100 < 50) continue;
                draw = 1103515245 * draw + 12345;
                lines[many++] = Due.line(100 + i);
            }
            Due.is("T2 twelve by seed " + start, x.told(0, 0, 0, start * 7919), many == 0 ? -5 : 1);
            Due.is("T2 left by seed " + start, x.count(101), many == 0 ? -1 : many);
            for (int i = 0; i < many; i++) Due.is("T2 left by seed " + start, x.words(0, 1, i), lines[i]);
            for (int i = 0; i < 12; i++) lines[i] = Due.line(100 + i);
        }
    }

    /** "of the LINES left k = 0, 1, ..: ... LINE k and the next one change places (one DRAW for each k but the last)". */
    private static void changePlaces() {
        // The seed's DRAWS are all below 99, so that the first LINE goes to the end and the others come one ahead.
        for (int many = 1; many <= 12; many++) {
            int seed = seedBelow99(3 * many);
            long[] lines = new long[many];
            for (int i = 0; i < many; i++) lines[i] = Due.line(1 + i);
            NobodysBard x = song("move 99;", lines);
            x.told(0, 0, 0, seed);
            Due.is("T2 moved, of " + many, x.count(101), many);
            for (int i = 0; i < many; i++) Due.is("T2 moved, of " + many, x.words(0, 1, i), i + 1 < many ? lines[i + 1] : lines[0]);
        }
    }

    private static int seedBelow99(int draws) {
        for (int seed = 0; seed < 1_000_000; seed++) {
            int x = seed;
            int below = 0;
            for (int i = 0; i < draws; i++) {
                x = 1103515245 * x + 12345;
                if ((x >>> 16) % 100 < 99) below++;
            }
            if (below == draws) return seed;
        }
        throw new IllegalStateException("no seed");
    }
}
