/** Promises 1 to 5 and the grammar: a new object, feed, end, web, fault. */
public final class TextTest {
    private static final int NONE = WebCourt.NONE;
    private static final String KNOTS = "knot a;knot b;knot c;knot d;knot e;knot f;knot g;knot h;";
    private static final String PLEAS = "plea p strong 1;plea q strong 2;plea r strong 3;plea s strong 4;"
            + "plea t strong 5;plea u strong 6;plea v strong 7;plea w strong 8;";

    public static void main(String[] args) {
        newObject();
        feeding();
        ending();
        readingAnew();
        faultsLeaveAll();
        noToken();
        misplaced();
        tooMany();
        formulas();
        nesting();
        twice();
        numbers();
        unknown();
        firstByPlace();
        Check.finish();
    }

    private static void newObject() {
        WebCourt x = new WebCourt();
        for (int what = 0; what <= 15; what++) {
            Check.due("new about(" + what + ")", x.about(what), what == 4 ? NONE : 0);
        }
        Check.due("new fault(0)", x.fault(0), 0);
        Check.due("new fault(1)", x.fault(1), NONE);
        Check.due("new fault(2)", x.fault(2), NONE);
        Check.due("new fault(-1)", x.fault(-1), NONE);
        Check.due("new restore(0)", x.restore(0), NONE);
        Check.due("new undo()", x.undo(), false);
        Check.due("new redo()", x.redo(), false);
        Check.due("new fits(0)", x.fits(0), 0);
        Check.due("new reach()", x.reach(), 0);
        Check.lie("a new object", x);
    }

    private static void feeding() {
        WebCourt x = new WebCourt();
        for (int i = 1; i <= 80; i++) {
            Check.due("feed " + i, x.feed(0x20202020, 0x20202020, 0x20202020, 0x20202020, 0x20202020), 20 * i);
        }
        Check.due("feed 81", x.feed(0, 0, 0, 0, 0), NONE);
        Check.due("about(12)", x.about(12), 1600);
        Check.due("web() of 1600 blanks", x.web(), 0);
        Check.due("about(12) behind web()", x.about(12), 0);
        // "knot a;\nknot bc;case " and then what can't be there, so that each byte's place shows.
        x.feed(0x6b6e6f74, 0x20613b0a, 0x6b6e6f74, 0x2062633b, 0x63617365);
        x.feed(0x20ff4142, 0x43444546, 0x30313233, 0x34353637, 0x38393a3b);
        Check.due("web() with a byte 255", x.web(), NONE);
        Check.due("its fault", x.fault(0), 1);
        Check.due("its place", x.fault(1), 21);
        Check.due("end(16)", x.end(16), 16);
        Check.due("web() of the rest", x.web(), 0);
        Check.due("its knots", x.about(1), 2);
        // At most 1,600, though some of the twenty would have room.
        for (int i = 0; i < 80; i++) {
            x.feed(1, 2, 3, 4, 5);
        }
        Check.due("end(1581)", x.end(1581), 1581);
        Check.due("feed at 1581", x.feed(0, 0, 0, 0, 0), NONE);
        Check.due("about(12) at 1581", x.about(12), 1581);
        Check.due("end(1580)", x.end(1580), 1580);
        Check.due("feed at 1580", x.feed(0, 0, 0, 0, 0), 1600);
    }

    private static void ending() {
        WebCourt x = new WebCourt();
        Check.due("end(0) at first", x.end(0), 0);
        Check.due("end(1) at first", x.end(1), NONE);
        Check.feed(x, "knot abc;            ");
        Check.due("about(12)", x.about(12), 21);
        Check.due("end(-1)", x.end(-1), NONE);
        Check.due("end(22)", x.end(22), NONE);
        Check.due("end(max)", x.end(Integer.MAX_VALUE), NONE);
        Check.due("end(min)", x.end(Integer.MIN_VALUE), NONE);
        Check.due("end(21)", x.end(21), 21);
        Check.due("end(6)", x.end(6), 6);
        Check.due("end(7)", x.end(7), NONE);
        // What was cut off is gone; what is fed comes behind the rest.
        x.feed(0x7879203b, 0x20202020, 0x20202020, 0x20202020, 0x20202020);
        Check.due("about(12) then", x.about(12), 26);
        Check.due("web()", x.web(), 0);
        Check.feed(x, "knot axy;bench axy;knot axy;");
        Check.due("web() of a name twice", x.web(), NONE);
        Check.due("fault(1)", x.fault(1), 24);
        // Bytes behind the end are no part of a token.
        x.end(0);
        Check.feed(x, "draw 1234567;");
        x.end(8);
        Check.due("web() of a number cut", x.web(), NONE);
        Check.due("only the end is missed", x.fault(0) * 100 + x.fault(1), 208);
        x.end(0);
        Check.feed(x, "draw 12x;");
        x.end(7);
        Check.due("web() of a letter cut", x.web(), NONE);
        Check.due("only the end is missed there", x.fault(0) * 100 + x.fault(1), 207);
        x.end(0);
        Check.feed(x, "knot knots;");
        x.end(9);
        Check.due("web() of a word cut", x.web(), NONE);
        Check.due("the word is knot", x.fault(0) * 100 + x.fault(1), 205);
    }

    private static void readingAnew() {
        String text = "knot a;knot b;line a b;plea p strong 9;case x at a pleads p;case y at b pleads p;draw 8;back 100;";
        WebCourt x = Check.fine(text, 2);
        x.later(5);
        x.heard(0, 1, true);
        x.image(1);
        x.hear(0);
        x.hour(1);
        x.undo();
        x.way(1);
        x.spin(0);
        Check.feed(x, "bench a;");
        Check.due("web() with a fault", x.web(), NONE);
        Check.due("fault(0)", x.fault(0), 5);
        x.end(0);
        Check.feed(x, text);
        Check.due("web() again", x.web(), 2);
        Check.due("fault(0) then", x.fault(0), 0);
        Check.due("fault(1) then", x.fault(1), NONE);
        Check.due("where she is", x.about(4), 0);
        Check.due("hour", x.about(5), 0);
        Check.due("heard in it", x.about(6), 0);
        Check.due("seed", x.about(7), 8);
        Check.due("to be undone", x.about(8), 0);
        Check.due("to be redone", x.about(9), 0);
        Check.due("what is heard", x.about(10), 0);
        Check.due("the time", x.about(11), 5);
        Check.due("bytes", x.about(12), 0);
        Check.due("sticky", x.about(15), 0);
        Check.due("case 0", x.item(0, 1), 0);
        Check.due("its before", x.item(0, 4), 0);
        Check.due("restore(1)", x.restore(1), NONE);
        Check.lie("web()", x);
        // An empty text is a web, too.
        Check.due("web() of nothing", x.web(), 0);
        Check.due("no knots", x.about(1), 0);
        Check.due("she is nowhere", x.about(4), NONE);
        Check.due("seed of nothing", x.about(7), 0);
    }

    private static void faultsLeaveAll() {
        WebCourt x = Check.court("knot a;knot b;line a b;plea p strong 9;case x at a pleads p;law pleads;");
        x.heard(0, 1, true);
        x.image(2);
        x.hear(0);
        x.hour(1);
        x.undo();
        x.way(1);
        Check.feed(x, "knot z;knot z;");
        Check.due("web() with a fault", x.web(), NONE);
        int[] due = {1, 2, 1, 1, 0, 0, 1, 0, 1, 1, 1, 0, 14, 1, 2, 0};
        for (int what = 0; what < due.length; what++) {
            Check.due("about(" + what + ") behind a fault", x.about(what), due[what]);
        }
        Check.due("case 0 behind a fault", x.item(0, 1), 1);
        Check.due("verdict(0) behind a fault", x.verdict(0), 9);
        Check.lie("a fault", x, 0, 1);
        Check.due("redo() behind a fault", x.redo(), true);
        Check.due("restore(2) behind a fault", x.restore(2), 0);
        Check.due("end(7) of the tape that stays", x.end(7), 7);
        Check.due("web() of the rest", x.web(), 0);
        Check.due("knots then", x.about(1), 1);
    }

    private static void noToken() {
        Check.fault("Knot a;", 1, 0);
        Check.fault("knot A;", 1, 5);
        Check.fault("knot a,", 1, 6);
        Check.fault("knot\ta;", 1, 4);
        Check.fault("knot a;\r", 1, 7);
        Check.fault("knot a;" + (char) 0, 1, 7);
        Check.fault("knot a" + (char) 225 + ";", 1, 6);
        Check.fault("knot a" + (char) 187 + ";", 1, 6);
        Check.fault("knot abcdefghi;", 1, 5);
        Check.fine("knot abcdefgh;", 0);
        Check.fault("draw 00001;", 1, 5);
        Check.fine("draw 0001;", 0);
        Check.fault("draw 12x;", 1, 5);
        Check.fault("draw 12 x;", 2, 8);
        Check.fault("law 1or 2;", 1, 4);
        Check.fine("law 1 or 2;", 0);
        Check.fault("law 1{2;", 1, 5);
        Check.fault("law `;", 1, 4);
        Check.fault("law 1:2;", 1, 5);
        Check.fault("law 1 ! 2;", 1, 6);
    }

    private static void misplaced() {
        String[] words = {"knot", "line", "sticky", "plea", "strong", "case", "at", "pleads", "bench", "law", "back",
            "draw", "or", "and", "not", "many", "before", "stays", "kin", "hour"};
        for (String word : words) {
            Check.fault("knot " + word + ";", 2, 5);
        }
        String[] names = {"web", "both", "one", "sum", "term", "unit", "e", "name", "n", "knots", "kno", "atat"};
        for (String name : names) {
            Check.fine("knot " + name + ";plea " + name + " strong 0;case " + name + " at " + name + " pleads " + name
                    + ";", 1);
        }
        Check.fault("a;", 2, 0);
        Check.fault(";", 2, 0);
        Check.fault(" \n 7", 2, 3);
        Check.fault("sticky;", 2, 0);
        Check.fault("knot", 2, 4);
        Check.fault("knot  \n", 2, 7);
        Check.fault("knot a", 2, 6);
        Check.fault("knot a ", 2, 7);
        Check.fault("knot a;;", 2, 7);
        Check.fault("knot a b;", 2, 7);
        Check.fault("knot 1;", 2, 5);
        Check.fault("knot a;knot b;line a;", 2, 20);
        Check.fault("knot a;knot b;line a b at;", 2, 23);
        Check.fault("knot a;knot b;line a b sticky sticky;", 2, 30);
        Check.fine("knot a;knot b;line a b sticky;", 0);
        Check.fault("plea p;", 2, 6);
        Check.fault("plea p strong;", 2, 13);
        Check.fault("plea p strong q;", 2, 14);
        Check.fault("plea p strong (1);", 2, 14);
        Check.fault("plea p strong -1;", 2, 14);
        Check.fine("plea p strong1;", 0);
        Check.fault("knot a;plea p strong 1;case x a pleads p;", 2, 30);
        Check.fault("knot a;plea p strong 1;case x at pleads p;", 2, 33);
        Check.fault("knot a;plea p strong 1;case x at a p;", 2, 35);
        Check.fault("knot a;plea p strong 1;case x at a pleads;", 2, 41);
        Check.fault("knot a;plea p strong 1;case x at a pleads p 1;", 2, 44);
        Check.fault("knot a;plea p strong 1;case x at a pleads p knot;", 2, 44);
        Check.fault("bench;", 2, 5);
        Check.fault("bench 1;", 2, 6);
        Check.fault("back;", 2, 4);
        Check.fault("back x;", 2, 5);
        Check.fault("back 1 1;", 2, 7);
        Check.fault("draw -1;", 2, 5);
        // Blanks part tokens or not.
        Check.fine("\nknot\na\n;knot b ;line a b;plea p strong 1;case x at a pleads p;back1;draw\n\n 2;law(1)+2*3;", 1);
    }

    private static void tooMany() {
        Check.due("8 knots", Check.fine(KNOTS, 0).about(1), 8);
        Check.fault(KNOTS + "knot i;", 2, 56);
        Check.fault(KNOTS + "knot a;", 2, 56);
        String lines = KNOTS + "line a b;line a c;line a d;line a e;line a f;line a g;line a h;line b c;line b d;"
                + "line b e;line b f;line b g;line b h;line c d;";
        Check.due("14 lines", Check.fine(lines, 0).about(2), 14);
        Check.fault(lines + "line c e;", 2, lines.length());
        Check.due("8 pleas", Check.fine(PLEAS, 0).about(3), 8);
        Check.fault(PLEAS + "plea x strong 1;", 2, PLEAS.length());
        String cases = "knot a;plea p strong 1;case a at a pleads p;case b at a pleads p;case c at a pleads p;"
                + "case d at a pleads p;case e at a pleads p;case f at a pleads p;";
        Check.fine(cases, 6);
        Check.fault(cases + "case g at a pleads p;", 2, cases.length());
        String four = "knot a;" + PLEAS + "case x at a pleads p q r s";
        Check.fine(four + ";", 1);
        Check.fault(four + " t;", 2, four.length() + 1);
        Check.fault(four + " p;", 2, four.length() + 1);
        Check.fault(four + " z;", 2, four.length() + 1);
        Check.fault("knot a;bench a;bench a;", 2, 15);
        Check.fault("law 1;law 1;", 2, 6);
        Check.fault("back 1;back 1;", 2, 7);
        Check.fault("draw 1;draw 1;", 2, 7);
    }

    private static void formulas() {
        Check.fault("law;", 2, 3);
        Check.fault("law 1", 2, 5);
        Check.fault("law 1+;", 2, 6);
        Check.fault("law 1 2;", 2, 6);
        Check.fault("law +1;", 2, 4);
        Check.fault("law 1<2<3;", 2, 7);
        Check.fault("law 1<2=1;", 2, 7);
        Check.fine("law (1<2)<3;", 0);
        Check.fault("law ();", 2, 5);
        Check.fault("law (1;", 2, 6);
        Check.fault("law 1);", 2, 5);
        Check.fault("law not;", 2, 7);
        Check.fault("law 1+not 2;", 2, 6);
        Check.fault("law 1<not 2;", 2, 6);
        Check.fine("law 1+(not 2);", 0);
        Check.fault("law 1 and or 2;", 2, 10);
        Check.fine("law not 1 and not 2 or not not 3;", 0);
        Check.fault("law pleads many;", 2, 11);
        Check.fault("law strong;", 2, 4);
        Check.fault("law p;", 2, 4);
        Check.due("units", Check.fine("law pleads+many*before/stays%kin-hour>0000;", 0).about(13), 7);
        Check.due("units of ( e )", Check.fine("law ((1))+(2);", 0).about(13), 5);
        Check.due("units without a law", Check.fine("knot a;", 0).about(13), 0);
        StringBuilder sum = new StringBuilder("law 1");
        for (int i = 0; i < 29; i++) {
            sum.append("+1");
        }
        Check.due("30 units", Check.fine(sum + ";", 0).about(13), 30);
        Check.fault(sum + "+1;", 2, sum.length() + 1);
        Check.fault(sum + "+(1);", 2, sum.length() + 1);
        Check.fault(sum + "<1;", 2, sum.length() + 1);
        Check.fault(sum + " and not 1;", 2, sum.length() + 9);
        String inner = "law (1" + sum.substring(5, sum.length() - 2);
        Check.due("30 units, one of them ( e )", Check.fine(inner + ");", 0).about(13), 30);
        Check.fault(inner + "+1);", 2, inner.length() + 1);
    }

    private static void nesting() {
        Check.fine("law (((((((1)))))));", 0);
        Check.fault("law ((((((((1))))))));", 2, 11);
        Check.fine("law not not not not not not not 1;", 0);
        Check.fault("law not not not not not not not not 1;", 2, 32);
        Check.fine("law not (not (not (not 1)));", 0);
        Check.fault("law not (not (not (not (1))));", 2, 23);
        Check.fault("law (((((((not 1)))))));", 2, 11);
        // Those beside each other are not within each other.
        Check.fine("law (((((((1)))))))+(((((((1)))))));", 0);
    }

    private static void twice() {
        Check.fault("knot a;knot a;", 3, 12);
        Check.fault("plea p strong 1;plea p strong 2;", 3, 21);
        Check.fault("knot a;plea p strong 1;case x at a pleads p;case x at a pleads p;", 3, 49);
        Check.fault("knot a;plea p strong 1;case x at a pleads p p;", 3, 44);
        Check.fine("knot a;plea a strong 1;case a at a pleads a;", 1);
        Check.fault("knot a;line a a;", 3, 14);
        Check.fault("knot a;knot b;line a b;line a b;", 3, 30);
        Check.fault("knot a;knot b;line a b;line b a;", 3, 30);
        Check.fault("knot a;knot b;line a b sticky;line b a sticky;", 3, 37);
        Check.fine("knot abcdefgh;knot abcdefg;knot bcdefgh;", 0);
    }

    private static void numbers() {
        Check.fine("plea p strong 20;", 0);
        Check.fault("plea p strong 21;", 4, 14);
        Check.fine("back 100;", 0);
        Check.fault("back 101;", 4, 5);
        Check.fine("draw 999;", 0);
        Check.fault("draw 1000;", 4, 5);
        Check.fine("law 9999;", 0);
    }

    private static void unknown() {
        Check.fault("line a b;", 5, 5);
        Check.fault("knot a;line a b;knot b;", 5, 14);
        Check.fault("knot a;case x at b pleads p;", 5, 17);
        Check.fault("knot a;case x at a pleads p;", 5, 26);
        Check.fault("knot a;plea p strong 1;case x at a pleads p q;", 5, 44);
        Check.fault("knot a;plea p strong 1;case x at p pleads p;", 5, 33);
        Check.fault("knot a;plea p strong 1;case x at a pleads a;", 5, 42);
        Check.fault("bench a;knot a;", 5, 6);
    }

    private static void firstByPlace() {
        Check.fault("knot a;knot a;draw 1000;#", 3, 12);
        Check.fault("draw 1000;knot a;knot a;#", 4, 5);
        Check.fault("draw 1000x;", 1, 5);
        Check.fault("knot a;draw 1;draw 1000;", 2, 14);
        Check.fault("line a a;", 5, 5);
    }
}
