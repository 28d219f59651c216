/** The sentences of the Terms on the text, and of promises 1 to 5, that name a boundary: each by itself. */
final class EdgeText {
    private static final int NONE = WebCourt.NONE;
    private static final String[] WORDS = {"knot", "line", "sticky", "plea", "strong", "case", "at", "pleads", "bench",
        "law", "back", "draw", "or", "and", "not", "many", "before", "stays", "kin", "hour"};
    private static final String SIGNS = ";()<>=+-*/%";
    private static final String KNOTS = "knot a;knot b;knot c;knot d;knot e;knot f;knot g;knot h;";
    private static final String LINES = "line a b;line a c;line a d;line a e;line a f;line a g;line a h;line b c;"
            + "line b d;line b e;line b f;line b g;line b h;line c d;";
    private static final String PLEAS = "plea p strong 1;plea q strong 2;plea r strong 3;plea s strong 4;"
            + "plea t strong 5;plea u strong 6;plea v strong 7;plea w strong 8;";
    private static final String CASES = "case a at a pleads p;case b at a pleads p;case c at a pleads p;"
            + "case d at a pleads p;case e at a pleads p;case f at a pleads p;";

    private EdgeText() {
    }

    static void run() {
        tokens();
        limits();
        formulaLimits();
        grammar();
        faults();
        misplaced();
        newObject();
        feed();
        end();
        web();
        fault();
    }

    /** Blanks and behind them the tail, 1,600 bytes in all. */
    private static String full(String tail) {
        return " ".repeat(1600 - tail.length()) + tail;
    }

    private static void tokens() {
        Check.says(0, "A WEB is a text of at most 1,600 bytes (empty at first): web = {line}.");
        Check.fine("", 0);
        Check.due("knots told by the last bytes of 1,600", Check.fine(full("knot z;"), 0).about(1), 1);
        Check.fault(full("#"), 1, 1599);
        Check.fault(full("knot z"), 2, 1600);
        Check.fault(full("draw 12"), 2, 1600);
        Check.fault(full("draw 12345"), 1, 1595);
        Check.says(0, "words (a .. z, 8 at most)");
        Check.fine("knot azazazaz;", 0);
        Check.due("two of 8 letters", Check.fine("knot abcdefgh;knot abcdefgi;knot zbcdefgh;", 0).about(1), 3);
        Check.fault("knot abcdefghi;", 1, 5);
        Check.fault("abcdefghi", 1, 0);
        Check.fault("knot a;knot b;line a b stickyyyy;", 1, 23);
        Check.fault("knot `;", 1, 5);
        Check.fault("knot {;", 1, 5);
        Check.fault("knot B;", 1, 5);
        Check.says(0, "N (1 to 4 digits)");
        Check.fine("draw 0;", 0);
        Check.fine("draw 0000;", 0);
        Check.due("draw 0999", Check.fine("draw 0999;", 0).about(7), 999);
        Check.fault("draw 00000;", 1, 5);
        Check.fault("draw 00999;", 1, 5);
        Check.fault("law 99999999999;", 1, 4);
        Check.fine("law 9999;", 0);
        Check.says(0, "signs ; ( ) < > = + - * / %");
        for (int sign = 0; sign < 256; sign++) {
            boolean blank = sign == 32 || sign == 10;
            boolean token = sign >= 'a' && sign <= 'z' || sign >= '0' && sign <= '9' || SIGNS.indexOf(sign) >= 0;
            if (!blank) {
                Check.fault("knot a;" + (char) sign, token ? 2 : 1, 7);
            }
        }
        Check.says(0, "blanks (32, 10) part them or not");
        Check.fine(" \n\n ", 0);
        Check.fine("\n knot\n \na ;knot b\n;line\na b\n; ", 0);
        Check.fault("kn ot a;", 2, 0);
        Check.fault("kn\not a;", 2, 0);
        Check.fault("draw 1 2;", 2, 7);
        Check.fault("draw 1\n2;", 2, 7);
        Check.fine("law(1)or(2)and(3);back0;draw0;", 0);
        Check.fault("knot\ta;", 1, 4);
        Check.fault("knot\ra;", 1, 4);
        Check.fault("knot" + (char) 160 + "a;", 1, 4);
        Check.says(0, "each is as long as can be");
        Check.fault("knota;", 2, 0);
        Check.fault("knot a;line aa;", 5, 12);
        Check.due("99 is one N", Check.fine("draw 99;", 0).about(7), 99);
        Check.due("1234 is one unit", Check.fine("law 1234;", 0).about(13), 1);
        Check.fine("knot nota;knot orb;knot laws;", 0);
        Check.says(0, "no letter directly behind an N");
        Check.fault("law 1or 2;", 1, 4);
        Check.fault("law 1234or 2;", 1, 4);
        Check.fault("draw 7z;", 1, 5);
        Check.fine("law 1 or 2;", 0);
        Check.fine("law 1\nor 2;", 0);
        Check.fine("law (1)or 2<3;", 0);
        Check.says(0, "Words that stand for themselves here are no NAMES.");
        String told = "knot k;plea p strong 1;";
        for (String word : WORDS) {
            Check.fault("knot " + word + ";", 2, 5);
            Check.fault("plea " + word + " strong 1;", 2, 5);
            Check.fault(told + "case " + word + " at k pleads p;", 2, told.length() + 5);
            Check.fine("knot " + word.charAt(0) + word.substring(0, Math.min(7, word.length())) + ";", 0);
        }
    }

    private static void limits() {
        Check.says(0, "At most 8 KNOTS");
        Check.due("8 knots", Check.fine(KNOTS, 0).about(1), 8);
        Check.fault(KNOTS + "knot i;", 2, KNOTS.length());
        Check.says(0, "14 LINES");
        Check.due("14 lines", Check.fine(KNOTS + LINES, 0).about(2), 14);
        Check.fault(KNOTS + LINES + "line c e;", 2, KNOTS.length() + LINES.length());
        Check.says(0, "between two KNOTS told ahead");
        Check.fault("line a b;knot a;knot b;", 5, 5);
        Check.fault("knot a;line a b;knot b;", 5, 14);
        Check.fault("knot a;line b a;knot b;", 5, 12);
        Check.fine("knot a;knot b;line a b;", 0);
        Check.says(0, "each two once");
        Check.fault("knot a;knot b;line a b;line a b;", 3, 30);
        Check.fault("knot a;knot b;line a b sticky;line b a;", 3, 37);
        Check.fine("knot a;knot b;knot c;line a b;line b c;line c a;", 0);
        Check.says(0, "8 PLEAS");
        Check.due("8 pleas", Check.fine(PLEAS, 0).about(3), 8);
        Check.fault(PLEAS + "plea x strong 1;", 2, PLEAS.length());
        Check.says(0, "strong 0 .. 20");
        Check.due("strong 0", Check.fine("plea p strong 0;", 0).plea(0), 0);
        Check.due("strong 20", Check.fine("plea p strong 20;", 0).plea(0), 20);
        Check.fault("plea p strong 21;", 4, 14);
        Check.fault("plea p strong 9999;", 4, 14);
        Check.says(0, "6 CASES");
        String ahead = "knot a;" + PLEAS;
        Check.fine(ahead + CASES, 6);
        Check.fault(ahead + CASES + "case g at a pleads p;", 2, ahead.length() + CASES.length());
        Check.says(0, "1 .. 4 unlike PLEAS");
        Check.fault(ahead + "case x at a pleads ;", 2, ahead.length() + 19);
        Check.due("one plea", Check.fine(ahead + "case x at a pleads w;", 1).item(0, 2), 0b10000000);
        Check.due("four pleas", Check.fine(ahead + "case x at a pleads w p s q;", 1).item(0, 2), 0b10001011);
        Check.fault(ahead + "case x at a pleads p q r s t;", 2, ahead.length() + 27);
        Check.fault(ahead + "case x at a pleads p q p;", 3, ahead.length() + 23);
        Check.says(0, "all told ahead");
        Check.fault("plea p strong 1;case x at a pleads p;knot a;", 5, 26);
        Check.fault("knot a;case x at a pleads p;plea p strong 1;", 5, 26);
        Check.says(0, "numbered as told, each sort by itself");
        WebCourt x = Check.fine("knot z;plea z strong 3;knot y;line z y sticky;plea a strong 8;case q at y pleads a;"
                + "knot a;line y a;case a at z pleads z;", 2);
        Check.due("knots of the cases", x.item(0, 0) * 10 + x.item(1, 0), 10);
        Check.due("pleas of the cases", x.item(0, 2) * 10 + x.item(1, 2), 21);
        Check.due("pleas", x.plea(0) * 10 + x.plea(1), 38);
        Check.due("knots next to y", x.knot(1, 0) * 10 + x.knot(1, 1), 41);
        Check.due("sticky lines", x.about(15), 1);
        Check.due("two sticky lines of three",
                Check.fine("knot a;knot b;knot c;line a b sticky;line a c;line b c sticky;", 0).about(15), 0b101);
        Check.says(0, "bench (a KNOT told ahead; the first one, if it is not told)");
        Check.fault("bench a;knot a;", 5, 6);
        Check.due("no bench", Check.fine("knot a;knot b;", 0).about(4), 0);
        Check.due("bench b", Check.fine("knot a;knot b;bench b;", 0).about(4), 1);
        Check.due("no knots", Check.fine("plea p strong 1;", 0).about(4), NONE);
        Check.says(0, "back (0 .. 100 of 100; 0)");
        Check.due("no back", Check.fine("", 0).odds(1, 0), 1);
        Check.due("back 0", Check.fine("back 0;", 0).odds(1, 0), 1);
        Check.due("back 100", Check.fine("back 100;", 0).odds(1, 0), 0);
        Check.fault("back 101;", 4, 5);
        Check.says(0, "draw (0 .. 999; 0)");
        Check.due("no draw", Check.fine("", 0).about(7), 0);
        Check.due("draw 999", Check.fine("draw 999;", 0).about(7), 999);
        Check.fault("draw 1000;", 4, 5);
        Check.says(0, "once each");
        Check.fault("knot a;knot b;bench a;bench b;", 2, 22);
        Check.fault("law 1;law 2;", 2, 6);
        Check.fault("back 1;draw 1;back 1;", 2, 14);
        Check.fault("draw 1;back 1;draw 1;", 2, 14);
        Check.fine("knot a;bench a;law 1;back 1;draw 1;", 0);
    }

    private static void formulaLimits() {
        Check.says(0, "60 units in all, 30 in one e");
        String thirty = "law 1" + "+1".repeat(29);
        Check.due("30 units", Check.fine(thirty + ";", 0).about(13), 30);
        Check.fault(thirty + "+1;", 2, thirty.length() + 1);
        String other = "law many or 1*2<3-kin" + " and hour".repeat(25);
        Check.due("30 units of all sorts", Check.fine(other + ";", 0).about(13), 30);
        Check.fault(other + " and hour;", 2, other.length() + 5);
        Check.fault(other + " or not not hour;", 2, other.length() + 12);
        Check.due("seven nots ahead of each unit: 1",
                Check.court("knot k;plea p strong 1;case x at k pleads p;law " + "not not not not not not not 0 and ".repeat(29)
                        + "not not not not not not not 0;").verdict(0), 1);
        WebCourt open = Check.court("knot k;plea p strong 1;case x at k pleads p;law 0 or 1 and 9>2+3*(0 or 1 and 9>2+3*("
                + "0 or 1 and 9>2+3*(0 or 1 and 9>2+3*(0 or 1 and 9>2+3*0))));");
        Check.due("all signs open at once: units", open.about(13), 30);
        Check.due("all signs open at once: verdict", open.verdict(0), 1);
        Check.says(0, "a unit ( e ), or a one behind not, within 6 others at most");
        Check.fine("law " + "(".repeat(7) + "1" + ")".repeat(7) + ";", 0);
        Check.fault("law " + "(".repeat(8) + "1" + ")".repeat(8) + ";", 2, 11);
        Check.fine("law " + "not ".repeat(7) + "1;", 0);
        Check.fault("law " + "not ".repeat(8) + "1;", 2, 32);
        Check.fine("law not(not(not(not 1)));", 0);
        Check.fault("law not(not(not(not(1))));", 2, 19);
        Check.fault("law (not(not(not(not 1))));", 2, 17);
        Check.fine("law " + "(".repeat(7) + "1" + ")".repeat(7) + "+" + "(".repeat(7) + "1" + ")".repeat(7) + ";", 0);
        Check.fine("law " + "not ".repeat(7) + "1 and " + "not ".repeat(7) + "1;", 0);
    }

    private static int law(String formula) {
        return Check.court("knot k;plea p strong 1;case x at k pleads p;law " + formula + ";").verdict(0);
    }

    private static void grammar() {
        Check.says(0, "e = both {or both}.");
        Check.due("or is the loosest", law("1 or 0 and 0"), 1);
        Check.due("many of them", law("0 or 0 or 0 or 7"), 1);
        Check.due("one both is as it is", law("7"), 7);
        Check.says(0, "both = one {and one}.");
        Check.due("and is closer than or", law("0 and 0 or 1"), 1);
        Check.due("many of them", law("1 and 2 and 3 and 0"), 0);
        Check.says(0, "one = not one | sum [(< | > | =) sum].");
        Check.due("not takes the relation", law("not 1 = 2"), 1);
        Check.due("not takes the sum", law("not 0 + 1"), 0);
        Check.due("not is closer than and", law("not 0 and 0"), 0);
        Check.due("a relation of sums", law("1 + 2 < 2 * 2"), 1);
        Check.fault("law 1 < 2 < 3;", 2, 10);
        Check.says(0, "sum = term {(+ | -) term}.");
        Check.due("from the left", law("10 - 3 - 2 + 1"), 6);
        Check.says(0, "term = unit {(* | / | %) unit}.");
        Check.due("from the left", law("20 / 6 * 4 % 7"), 5);
        Check.due("closer than a sum", law("2 + 3 * 4 - 9 % 5"), 10);
        Check.says(0, "unit = N | pleads | many | before | stays | kin | hour | ( e ).");
        Check.due("all of them", law("(pleads + many + before + stays + kin + hour + 0007)"), 9);
        Check.fault("law strong;", 2, 4);
        Check.fault("law p;", 2, 4);
    }

    private static void faults() {
        Check.says(0, "1 no TOKEN");
        Check.fault("knot a;_", 1, 7);
        Check.fault("knot a; knot b; back 5, draw 5;", 1, 22);
        Check.fault("law 1 & 2;", 1, 6);
        Check.says(0, "the first by its place");
        Check.fault("draw 1000;knot a;knot a;#", 4, 5);
        Check.fault("knot a;knot a;draw 1000;#", 3, 12);
        Check.fault("bench a;#;draw 1000;", 5, 6);
        Check.fault("#knot a;knot a;draw 1000;", 1, 0);
        Check.fault("; draw 1000;#", 2, 0);
        Check.says(0, "the end: the text's length");
        for (String text : new String[] {"knot", "knot a", "knot a ", "knot a\n\n", "law 1", "law (1", "plea p strong 1"}) {
            Check.fault(text, 2, text.length());
        }
        Check.says(0, "at one place the least");
        Check.fault("draw 1000a;", 1, 5);
        Check.fault("knot a;knot b;line a bbbbbbbbb;", 1, 21);
        Check.fault("draw 1 1000;", 2, 7);
        Check.fault("knot a;" + PLEAS + "case x at a pleads p q r s p;", 2, 162);
        Check.fault("knot a;" + PLEAS + "case x at a pleads p q r s z;", 2, 162);
        Check.fault("law " + "1+".repeat(30) + "12345;", 1, 64);
        Check.fault("law " + "1+".repeat(30) + "knot;", 2, 64);
        Check.says(0, "one of a sort too many or a second time: at the line's first word");
        Check.fault(KNOTS + " \nknot i;", 2, KNOTS.length() + 2);
        Check.fault(KNOTS + "knot a;", 2, KNOTS.length());
        Check.fault(KNOTS + "knot;", 2, KNOTS.length());
        Check.fault(KNOTS + LINES + "line a z;", 2, KNOTS.length() + LINES.length());
        Check.fault(PLEAS + "plea p strong 21;", 2, PLEAS.length());
        Check.fault("draw 1;\n draw 1000;", 2, 9);
        Check.fault("law 1; law;", 2, 7);
        Check.says(0, "a fifth PLEA of a CASE");
        Check.fault("knot a;" + PLEAS + "case x at a pleads p q r s t;", 2, 162);
        Check.fault("knot a;" + PLEAS + "case x at a pleads p q r s t u v w;", 2, 162);
        Check.says(0, "a unit too many, what is within 7 others: at its first TOKEN, or the not");
        Check.fault("law " + "1+".repeat(30) + " (1);", 2, 65);
        Check.fault("law " + "1 and ".repeat(30) + "not 1;", 2, 188);
        Check.fault("law ((((((( (1)))))))) ;", 2, 12);
        Check.fault("law ((((((( not 1)))))));", 2, 12);
        Check.says(0, "3 a NAME told already (of its sort; of a CASE's PLEAS, too)");
        Check.fault("knot a;knot b;knot a;", 3, 19);
        Check.fault("plea a strong 1;plea a strong 1;", 3, 21);
        Check.fault("knot a;plea a strong 1;case a at a pleads a;case a at a pleads a;", 3, 49);
        Check.fault("knot a;plea a strong 1;plea b strong 1;case a at a pleads b a b;", 3, 62);
        Check.fine("knot a;plea a strong 1;case a at a pleads a;case b at a pleads a;", 2);
        Check.says(0, "a LINE of one KNOT, or told already (at the second NAME)");
        Check.fault("knot a;line a a;", 3, 14);
        Check.fault("knot a;knot b;line a b;line b  a;", 3, 31);
        Check.says(0, "4 a number that can't be");
        Check.fault("plea p strong  21;", 4, 15);
        Check.fault("back\n101;", 4, 5);
        Check.fault("draw 9999;", 4, 5);
        Check.says(0, "5 a NAME that no KNOT, no PLEA has");
        String told = "knot a;plea p strong 1;case c at a pleads p;";
        Check.fault(told + "bench p;", 5, told.length() + 6);
        Check.fault(told + "bench c;", 5, told.length() + 6);
        Check.fault(told + "line p a;", 5, told.length() + 5);
        Check.fault(told + "line a c;", 5, told.length() + 7);
        Check.fault(told + "case d at p pleads p;", 5, told.length() + 10);
        Check.fault(told + "case d at a pleads a;", 5, told.length() + 19);
        Check.fault(told + "case d at a pleads p c;", 5, told.length() + 21);
    }

    /** At each place of the grammar: what may stand there, and all else as fault 2, the end of the text, too. */
    private static void misplaced() {
        Check.says(0, "2 one that can't stand there");
        String operand = " pleads many before stays kin hour ( 1 ";
        String behind = " or and < > = + - * / % ";
        String[] table = {"", " knot line plea case bench law back draw ", "knot", " a ", "knot d", " ; ",
            "line", " a ", "line b", " a ", "line b c", " sticky ; ", "line b c sticky", " ; ",
            "plea", " a ", "plea c", " strong ", "plea c strong", " 1 ", "plea c strong 1", " ; ",
            "case", " a ", "case x", " at ", "case x at", " a ", "case x at a", " pleads ", "case x at a pleads", " a ",
            "case x at a pleads b", " a ; ", "bench", " a ", "bench a", " ; ", "back", " 1 ", "back 1", " ; ",
            "draw", " 1 ", "draw 1", " ; ", "law", operand + "not ", "law not", operand + "not ", "law 1", behind + "; ",
            "law 1 or", operand + "not ", "law 1 and", operand + "not ", "law 1 <", operand, "law 1 >", operand,
            "law 1 =", operand, "law 1 +", operand, "law 1 -", operand, "law 1 *", operand, "law 1 /", operand,
            "law 1 %", operand, "law 1 < 2", " or and + - * / % ; ", "law 1 + 2 > 3 * 4", " or and + - * / % ; ",
            "law not 1", behind + "; ", "law not 1 = 2", " or and + - * / % ; ", "law (", operand + "not ",
            "law ( 1", behind + ") ", "law ( 1 < 2", " or and + - * / % ) ", "law ( 1 )", behind + "; ",
            "law kin - ( hour or ( 2", behind + ") ", "law kin - ( hour or ( 2 )", behind + ") "};
        String base = "knot a;knot b;knot c;plea a strong 1;plea b strong 2;";
        String[] signs = SIGNS.split("");
        for (int i = 0; i < table.length; i += 2) {
            String prefix = base + table[i];
            for (String word : WORDS) {
                tokenAt(prefix, word, table[i + 1]);
            }
            for (String sign : signs) {
                tokenAt(prefix, sign, table[i + 1]);
            }
            tokenAt(prefix, "a", table[i + 1]);
            tokenAt(prefix, "1", table[i + 1]);
            Check.fault(prefix + " !", 1, prefix.length() + 1);
            if (i > 0) {
                Check.fault(prefix, 2, prefix.length());
                Check.fault(prefix + " \n", 2, prefix.length() + 2);
            }
        }
    }

    private static void tokenAt(String prefix, String token, String allowed) {
        int place = prefix.length() + 1;
        if (!allowed.contains(" " + token + " ")) {
            Check.fault(prefix + " " + token + " ;", 2, place);
            return;
        }
        WebCourt x = new WebCourt();
        Check.feed(x, prefix + " " + token + " !");
        Check.due("web() of what stands there, and a byte that can't", x.web(), NONE);
        boolean itself = x.fault(0) == 2 && x.fault(1) == place;
        Check.due(token + " can stand behind " + prefix, itself, false);
    }

    private static void newObject() {
        Check.says(0, "The constants: `NONE = -1`: There is none.");
        Check.due("NONE", WebCourt.NONE, -1);
        Check.says(1, "An empty WEB.");
        WebCourt x = new WebCourt();
        for (int what = 0; what <= 15; what++) {
            Check.due("about(" + what + ")", x.about(what), what == 4 ? NONE : 0);
        }
        Check.due("knot(0, 0)", x.knot(0, 0), NONE);
        Check.due("plea(0)", x.plea(0), NONE);
        Check.due("item(0, 0)", x.item(0, 0), NONE);
        Check.due("verdict(0)", x.verdict(0), -1000000000);
        Check.due("hour(0)", x.hour(0), NONE);
        Check.due("way(0)", x.way(0), NONE);
        Check.due("round()", x.round(), NONE);
        Check.due("undo()", x.undo(), false);
        Check.due("redo()", x.redo(), false);
        Check.due("lies(0)", x.lies(0), NONE);
        for (int box = 0; box < 3; box++) {
            Check.due("restore(" + box + ")", x.restore(box), NONE);
        }
        Check.due("web() of an empty tape", x.web(), 0);
    }

    private static void feed() {
        Check.says(2, "of each number the highest first");
        WebCourt x = new WebCourt();
        // knot ab; knot cd;  #
        x.feed(0x6b6e6f74, 0x2061623b, 0x206b6e6f, 0x74206364, 0x3b202023);
        Check.due("web()", x.web(), NONE);
        Check.due("the last byte of the last number", x.fault(0) * 100 + x.fault(1), 119);
        Check.due("end(17)", x.end(17), 17);
        Check.due("web() then", x.web(), 0);
        Check.due("knots", x.about(1), 2);
        x.feed(0xff000000, 0, 0, 0, 0);
        x.web();
        Check.due("the highest is the first", x.fault(1), 0);
        Check.says(2, "how many there are");
        WebCourt y = new WebCourt();
        for (int i = 1; i <= 80; i++) {
            Check.due("feed " + i, y.feed(0x20202020, 0x20202020, 0x20202020, 0x20202020, 0x20202020), 20 * i);
        }
        Check.says(2, "NONE, and nothing comes, if there would be more than 1,600");
        Check.due("feed at 1600", y.feed(0x23232323, 0, 0, 0, 0), NONE);
        Check.due("bytes", y.about(12), 1600);
        y.end(1581);
        Check.due("feed at 1581", y.feed(0x23232323, 0, 0, 0, 0), NONE);
        Check.due("bytes then", y.about(12), 1581);
        y.end(1580);
        Check.due("feed at 1580", y.feed(0x20202020, 0x20202020, 0x20202020, 0x20202020, 0x20202020), 1600);
        Check.due("feed at 1600 again", y.feed(0, 0, 0, 0, 0), NONE);
        Check.due("web() of blanks alone", y.web(), 0);
    }

    private static void end() {
        Check.says(3, "The TAPE has its first n bytes: n");
        WebCourt x = new WebCourt();
        Check.feed(x, "knot abc;           ");
        Check.due("end(20), all of them", x.end(20), 20);
        Check.due("end(7)", x.end(7), 7);
        x.feed(0x7a3b2020, 0x20202020, 0x20202020, 0x20202020, 0x20202020);
        Check.due("what was cut off is gone", x.about(12), 27);
        Check.due("web(): knot abz", x.web(), 0);
        String[] cut = {"draw 1234;", "draw 12", "draw 12x;", "draw 12", "knot knots;", "knot kno", "knot a;#", "knot a"};
        for (int i = 0; i < cut.length; i += 2) {
            WebCourt y = new WebCourt();
            Check.feed(y, cut[i]);
            y.end(cut[i + 1].length());
            Check.due("web() of " + cut[i] + " cut", y.web(), NONE);
            Check.due("only the ; is missed", y.fault(0) * 100 + y.fault(1), 200 + cut[i + 1].length());
        }
        Check.due("end(0) of an empty tape", x.end(0), 0);
        Check.feed(x, "#");
        Check.due("end(0) of one byte", x.end(0), 0);
        Check.due("web() of none", x.web(), 0);
        Check.says(3, "NONE, doing nothing, if it has not so many, or n is below 0");
        WebCourt y = new WebCourt();
        Check.due("end(1) of none", y.end(1), NONE);
        Check.feed(y, "knot a;");
        for (int n : new int[] {8, 20, 1600, Integer.MAX_VALUE, -1, Integer.MIN_VALUE}) {
            Check.due("end(" + n + ")", y.end(n), NONE);
            Check.due("bytes behind end(" + n + ")", y.about(12), 7);
        }
        Check.due("web() behind them", y.web(), 0);
        Check.due("its knot", y.about(1), 1);
    }

    private static final String RICH = "knot a;knot b;line a b;plea p strong 9;plea q strong 1;case x at a pleads p;"
            + "case y at b pleads p q;law pleads - 2;back 50;draw 7;bench a;";

    /** All that a web takes away is there. */
    private static WebCourt rich() {
        WebCourt x = Check.court(RICH);
        x.later(6);
        x.heard(1, 20, true);
        x.image(0);
        x.image(1);
        x.image(2);
        x.hour(1);
        x.hear(1);
        x.hour(1);
        x.plead(0, 1);
        x.spin(0);
        x.drop(0, 0);
        x.undo();
        x.way(1);
        return x;
    }

    private static void web() {
        Check.says(4, "The TAPE (empty then) is the WEB (all as told, hour 0, nothing heard in it, no ACTS are kept, "
                + "nothing is HEARD, nothing lies there, BOXES are empty then; the TIME stays): how many CASES");
        WebCourt x = rich();
        x.hour(1);
        x.hear(1);
        Check.feed(x, RICH);
        Check.due("web()", x.web(), 2);
        int[] due = {2, 2, 1, 2, 0, 0, 0, 7, 0, 0, 0, 6, 0, 2, 0, 0};
        for (int what = 0; what < due.length; what++) {
            Check.due("about(" + what + ")", x.about(what), due[what]);
        }
        int[][] cases = {{0, 0, 1, 1, 0, 0}, {1, 0, 3, 3, 0, 0}};
        for (int what = 0; what < 6; what++) {
            Check.due("item(0, " + what + ")", x.item(0, what), cases[0][what]);
            Check.due("item(1, " + what + ")", x.item(1, what), cases[1][what]);
        }
        Check.due("undo()", x.undo(), false);
        Check.due("redo()", x.redo(), false);
        Check.due("lies(0)", x.lies(0), NONE);
        Check.due("fits(6)", x.fits(6), 31);
        Check.due("untell(0)", x.untell(0), false);
        for (int box = 0; box < 3; box++) {
            Check.due("restore(" + box + ")", x.restore(box), NONE);
        }
        Check.due("web() of the empty tape", x.web(), 0);
        Check.due("no law, no back: units", x.about(13), 0);
        Check.due("no back: odds", x.odds(1, 0), 1);
        Check.due("nowhere", x.about(4), NONE);
        again();
        Check.says(4, "NONE: a FAULT (all stays)");
        for (String text : new String[] {"#", "knot a;knot a;", "draw 1000;", "bench z;", "law 1+2+3;knot",
            "knot q;plea z strong 20;case w at q pleads z;back 7;draw 8;bench q;law 1;knot q;"}) {
            WebCourt one = rich();
            WebCourt twin = rich();
            Check.feed(one, text);
            Check.feed(twin, text);
            Check.due("web() of " + text, one.web(), NONE);
            Check.same("web() of " + text, one, twin);
        }
    }

    /** Of a web told earlier nothing is left, however many were told. */
    private static void again() {
        Check.says(4, "all as told, hour 0");
        String much = "knot a;knot b;line a b sticky;plea p strong 9;plea q strong 4;case x at a pleads p;"
                + "case y at b pleads q;bench b;law pleads - 4;back 70;draw 33;";
        String little = "knot k;knot l;plea p strong 7;case x at k pleads p;";
        WebCourt x = new WebCourt();
        for (String text : new String[] {much, much, little, little, much, "", "", little}) {
            Check.feed(x, text);
            boolean full = text.equals(much);
            boolean empty = text.isEmpty();
            Check.due("web() of " + text, x.web(), full ? 2 : empty ? 0 : 1);
            Check.due("lines", x.about(2), full ? 1 : 0);
            Check.due("sticky lines", x.about(15), full ? 1 : 0);
            Check.due("pleas", x.about(3), full ? 2 : empty ? 0 : 1);
            Check.due("she", x.about(4), full ? 1 : empty ? NONE : 0);
            Check.due("next to knot 0", x.knot(0, 0), empty ? NONE : 0);
            Check.due("next to knot 0, sticky", x.knot(0, 1), full ? 2 : empty ? NONE : 0);
            Check.due("where she can come", x.reach(), full ? 2 : empty ? 0 : 1);
            Check.due("seed", x.about(7), full ? 33 : 0);
            Check.due("units", x.about(13), full ? 2 : 0);
            Check.due("odds", x.odds(1, 0), full ? 3 : 1);
            Check.due("verdict(0)", x.verdict(0), full ? 5 : empty ? -1000000000 : 2);
            Check.due("stayed", x.item(1, 5), full ? 0 : NONE);
            Check.due("hear(1)", x.hear(1), full ? 0 : NONE);
        }
    }

    private static void fault() {
        Check.says(5, "Of the latest web() what 0: its FAULT (0), 1: its place (NONE).");
        WebCourt x = new WebCourt();
        Check.due("fault(0) ahead of any", x.fault(0), 0);
        Check.due("fault(1) ahead of any", x.fault(1), NONE);
        Check.feed(x, "draw 1000;");
        x.web();
        Check.due("fault(0)", x.fault(0), 4);
        Check.due("fault(1)", x.fault(1), 5);
        x.end(0);
        Check.due("fault(0) behind end(0)", x.fault(0), 4);
        Check.feed(x, "#");
        x.web();
        Check.due("fault(0) of the later", x.fault(0), 1);
        Check.due("fault(1) of the later", x.fault(1), 0);
        x.end(0);
        Check.feed(x, "draw 1;");
        x.web();
        Check.due("fault(0) without one", x.fault(0), 0);
        Check.due("fault(1) without one", x.fault(1), NONE);
        Check.says(5, "NONE for another what.");
        Check.feed(x, "draw 1000;");
        x.web();
        for (int what : new int[] {-1, 2, 3, Integer.MIN_VALUE, Integer.MAX_VALUE}) {
            Check.due("fault(" + what + ")", x.fault(what), NONE);
        }
    }
}
