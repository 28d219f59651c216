/** Promises 6 to 17 and 45 to 47: what is now, the acts, undoing them, images, about. */
public final class CourtTest {
    private static final int NONE = WebCourt.NONE;
    private static final int NO_VERDICT = -1000000000;
    private static final String HUB = "knot hub;knot rim;knot eave;knot post;line hub rim;line rim eave;"
            + "line hub post sticky;line post eave;";
    private static final String PLEAS = "plea a strong 4;plea b strong 7;plea c strong 2;plea d strong 20;plea e strong 0;";

    public static void main(String[] args) {
        knots();
        pleas();
        items();
        verdicts();
        formulas();
        walking();
        comingBack();
        hearing();
        hearingTellsByLaw();
        ninetyNine();
        pleadingAndDropping();
        grabbing();
        spinning();
        undoing();
        fortyActs();
        undoingAll();
        images();
        about();
        Check.finish();
    }

    private static void knots() {
        WebCourt x = Check.court(HUB + PLEAS + "case x at rim pleads d;case y at post pleads a;case z at rim pleads b;");
        Check.due("knot(0, 0)", x.knot(0, 0), 0b0010);
        Check.due("knot(0, 1)", x.knot(0, 1), 0b1000);
        Check.due("knot(1, 0)", x.knot(1, 0), 0b0101);
        Check.due("knot(1, 1)", x.knot(1, 1), 0);
        Check.due("knot(3, 0)", x.knot(3, 0), 0b0100);
        Check.due("knot(3, 1)", x.knot(3, 1), 0b0001);
        Check.due("knot(1, 2)", x.knot(1, 2), 0b101);
        Check.due("knot(3, 2)", x.knot(3, 2), 0b010);
        Check.due("knot(0, 2)", x.knot(0, 2), 0);
        x.hour(1);
        x.hear(0);
        Check.due("knot(1, 2) with one let off", x.knot(1, 2), 0b100);
        for (int wrong : new int[] {-1, 4, 8, Integer.MIN_VALUE, Integer.MAX_VALUE}) {
            Check.due("knot(" + wrong + ", 0)", x.knot(wrong, 0), NONE);
            Check.due("knot(0, " + wrong + ")", x.knot(0, wrong), NONE);
        }
        Check.due("knot(0, 3)", x.knot(0, 3), NONE);
    }

    private static void pleas() {
        WebCourt x = Check.court(PLEAS);
        int[] due = {4, 7, 2, 20, 0};
        for (int i = 0; i < due.length; i++) {
            Check.due("plea(" + i + ")", x.plea(i), due[i]);
        }
        for (int wrong : new int[] {-1, 5, 8, Integer.MIN_VALUE, Integer.MAX_VALUE}) {
            Check.due("plea(" + wrong + ")", x.plea(wrong), NONE);
        }
    }

    private static void items() {
        WebCourt x = Check.court(HUB + PLEAS + "case x at rim pleads d a;case y at hub pleads e b c;");
        int[][] due = {{1, 0, 0b01001, 0b01001, 0, 0}, {0, 0, 0b10110, 0b10110, 0, 0}};
        for (int item = 0; item < 2; item++) {
            for (int what = 0; what < 6; what++) {
                Check.due("item(" + item + ", " + what + ")", x.item(item, what), due[item][what]);
            }
        }
        x.plead(0, 1);
        x.drop(0, 3);
        Check.due("item(0, 2) as it is", x.item(0, 2), 0b00011);
        Check.due("item(0, 3) as told", x.item(0, 3), 0b01001);
        for (int wrong : new int[] {-1, 2, 6, Integer.MIN_VALUE, Integer.MAX_VALUE}) {
            Check.due("item(" + wrong + ", 0)", x.item(wrong, 0), NONE);
        }
        Check.due("item(0, -1)", x.item(0, -1), NONE);
        Check.due("item(0, 6)", x.item(0, 6), NONE);
    }

    private static void verdicts() {
        // No law is told: pleads - 5 - before * 2.
        WebCourt x = Check.court("knot k;" + PLEAS + "case x at k pleads a;case y at k pleads b c;case z at k pleads d e;");
        Check.due("verdict(0)", x.verdict(0), -1);
        Check.due("verdict(1)", x.verdict(1), 4);
        Check.due("verdict(2)", x.verdict(2), 15);
        x.hear(2);
        Check.due("verdict(2) when let off once", x.verdict(2), 13);
        for (int wrong : new int[] {-1, 3, Integer.MIN_VALUE, Integer.MAX_VALUE}) {
            Check.due("verdict(" + wrong + ")", x.verdict(wrong), NO_VERDICT);
        }
    }

    private static int law(String formula) {
        return Check.court("knot k;knot l;plea p strong 3;plea q strong 4;case x at k pleads p q;"
                + "case y at k pleads p;case z at l pleads p;case w at k pleads p;law " + formula + ";").verdict(0);
    }

    private static void formulas() {
        Object[] due = {"pleads", 7, "many", 2, "before", 0, "stays", 0, "kin", 2, "hour", 0, "9999", 9999, "0007", 7,
            "1+2*3", 7, "(1+2)*3", 9, "10-3-2", 5, "10-(3-2)", 9, "20/6/2", 1, "20%7*2", 12, "2*7%4", 2,
            "(0-7)/2", -3, "(0-7)%2", -1, "7/(0-2)", -3, "7%(0-2)", 1, "7/0", 0, "7%0", 0, "5/(1-1)+2", 2,
            "2<3", 1, "3<3", 0, "3<2", 0, "3>2", 1, "3>3", 0, "2>3", 0, "3=3", 1, "3=4", 0, "1+2=3", 1, "2*3>5+0", 1,
            "not 0", 1, "not 5", 0, "not (0-5)", 0, "not not 5", 1, "not 1=2", 1, "not 2=2", 0, "not 0+1", 0,
            "5 and 7", 1, "5 and 0", 0, "0 and 0", 0, "(0-1) and 2", 1, "5 or 0", 1, "0 or 0", 0, "7 or 7", 1,
            "1 or 0 and 0", 1, "(1 or 0) and 0", 0, "0 and 0 or 1", 1, "not 1 or 1", 1, "not (1 or 1)", 0,
            "not 0 and 0", 0, "1 and 2 and 3", 1, "0 or 0 or 9", 1, "(5)", 5, "((5 or 0))+1", 2,
            "9999*9999*9999", (int) (9999L * 9999 * 9999), "0-9999*9999*30", (int) -(9999L * 9999 * 30),
            // 2 to the 31st wraps below 0, and that by -1 is itself again.
            "(4096*4096*128)/(0-1)", Integer.MIN_VALUE, "(4096*4096*128)%(0-1)", 0, "4096*4096*128-1", Integer.MAX_VALUE,
            "pleads - many * 3 > kin - 2 and not stays", 1};
        for (int i = 0; i < due.length; i += 2) {
            Check.due("law " + due[i], law((String) due[i]), (int) due[i + 1]);
        }
        WebCourt x = Check.court("knot k;plea p strong 3;case x at k pleads p;case y at k pleads p;"
                + "law hour*1000+stays*100+kin*10+before;");
        x.hour(0);
        x.hour(0);
        Check.due("by hour and kin", x.verdict(0), 2010);
        x.hear(1);
        Check.due("kin of a held one alone", x.verdict(0), 2000);
        Check.due("before and kin of one let off", x.verdict(1), 2011);
    }

    private static void walking() {
        WebCourt x = Check.court(HUB + "bench rim;");
        Check.due("bench", x.about(4), 1);
        Check.due("hour(3) without a line", x.hour(3), NONE);
        Check.due("hour(2)", x.hour(2), 0);
        Check.due("hour(3)", x.hour(3), 0);
        Check.due("where she is", x.about(4), 3);
        Check.due("hour(0) by a sticky line", x.hour(0), NONE);
        Check.due("hour(3) waits", x.hour(3), 0);
        Check.due("the hour", x.about(5), 3);
        for (int wrong : new int[] {-1, 4, 35, Integer.MIN_VALUE, Integer.MAX_VALUE}) {
            Check.due("hour(" + wrong + ")", x.hour(wrong), NONE);
        }
        Check.due("the hour still", x.about(5), 3);
        Check.due("acts", x.about(8), 3);
        Check.due("where she still is", x.about(4), 3);
        // The first knot, if no bench is told; a bench need not be the last line.
        Check.due("no bench", Check.court(HUB).about(4), 0);
        Check.due("bench ahead of knots", Check.court("knot a;knot b;bench b;knot c;").about(4), 1);
    }

    private static void comingBack() {
        // Seeds from 7: 30, 181, 868, 987, 290, 801, 808.
        String cases = "knot k;plea p strong 20;case x at k pleads p;case y at k pleads p;case z at k pleads p;draw 7;";
        WebCourt x = Check.court(cases + "back 50;");
        x.hear(1);
        Check.due("the seed at first", x.about(7), 7);
        Check.due("hour(0): 30 is below 50", x.hour(0), 0b010);
        Check.due("the seed", x.about(7), 30);
        Check.due("it is held", x.item(1, 1), 0);
        Check.due("it was let off before", x.item(1, 4), 1);
        Check.due("hour(0): nobody to draw for", x.hour(0), 0);
        Check.due("the seed stays", x.about(7), 30);
        x.hear(2);
        Check.due("hour(0): 81", x.hour(0), 0);
        x.hear(0);
        Check.due("hour(0): 68 and 87", x.hour(0), 0);
        Check.due("the seed of two", x.about(7), 987);
        x.hear(1);
        Check.due("hour(0): 90, 1 and 8", x.hour(0), 0b110);
        Check.due("the seed of three", x.about(7), 808);
        WebCourt never = Check.court(cases);
        never.hear(0);
        Check.due("back 0", never.hour(0), 0);
        Check.due("back 0 draws", never.about(7), 30);
        WebCourt always = Check.court(cases + "back 100;");
        always.hear(0);
        Check.due("back 100", always.hour(0), 1);
        WebCourt edge = Check.court(cases + "back 30;");
        edge.hear(0);
        Check.due("30 is not below 30", edge.hour(0), 0);
        WebCourt kept = Check.court("knot k;plea p strong 0;case x at k pleads p;back 100;draw 7;");
        Check.due("kept", kept.hear(0), 2);
        Check.due("who is kept does not come back", kept.hour(0), 0);
        Check.due("and has no draw", kept.about(7), 7);
    }

    private static void hearing() {
        WebCourt x = Check.court("knot k;knot l;line k l;plea a strong 9;plea b strong 5;plea c strong 1;"
                + "case x at k pleads a;case y at k pleads b;case z at k pleads c;case w at l pleads a;");
        Check.due("hear(3) elsewhere", x.hear(3), NONE);
        for (int wrong : new int[] {-1, 4, 6, Integer.MIN_VALUE, Integer.MAX_VALUE}) {
            Check.due("hear(" + wrong + ")", x.hear(wrong), NONE);
        }
        Check.due("no act", x.about(8), 0);
        Check.due("hear(0)", x.hear(0), 1);
        Check.due("heard in this hour", x.about(6), 1);
        Check.due("hear(1) in the same hour", x.hear(1), NONE);
        Check.due("let off", x.item(0, 1), 1);
        Check.due("before", x.item(0, 4), 1);
        x.hour(0);
        Check.due("not heard in this hour", x.about(6), 0);
        Check.due("hear(0) let off", x.hear(0), NONE);
        Check.due("hear(1)", x.hear(1), 0);
        Check.due("it stays held", x.item(1, 1), 0);
        Check.due("it stayed once", x.item(1, 5), 1);
        Check.due("it was not let off", x.item(1, 4), 0);
        x.hour(0);
        Check.due("hear(2)", x.hear(2), 2);
        Check.due("kept", x.item(2, 1), 2);
        Check.due("kept: before", x.item(2, 4), 0);
        Check.due("kept: stayed", x.item(2, 5), 0);
        x.hour(0);
        Check.due("hear(2) kept", x.hear(2), NONE);
        Check.due("acts", x.about(8), 6);
    }

    private static void hearingTellsByLaw() {
        WebCourt x = Check.court("knot k;plea p strong 3;case x at k pleads p;case y at k pleads p;law stays + kin - 2;");
        Check.due("hear(0): -1", x.hear(0), 2);
        x.hour(0);
        x.grab(0);
        WebCourt y = Check.court("knot k;plea p strong 3;case x at k pleads p;law stays > 2;");
        for (int i = 0; i < 3; i++) {
            Check.due("stays " + i, y.hear(0), 0);
            y.hour(0);
        }
        Check.due("stayed thrice", y.item(0, 5), 3);
        Check.due("let off then", y.hear(0), 1);
        Check.due("stayed still", y.item(0, 5), 3);
    }

    private static void ninetyNine() {
        WebCourt x = Check.court("knot k;plea p strong 3;case x at k pleads p;law 1;back 100;");
        for (int i = 0; i < 101; i++) {
            x.hear(0);
            x.hour(0);
        }
        Check.due("before at the most", x.item(0, 4), 99);
        Check.due("hours", x.about(5), 101);
        WebCourt y = Check.court("knot k;plea p strong 3;case x at k pleads p;law 0;");
        for (int i = 0; i < 101; i++) {
            y.hear(0);
            y.hour(0);
        }
        Check.due("stayed at the most", y.item(0, 5), 99);
    }

    private static void pleadingAndDropping() {
        WebCourt x = Check.court("knot k;" + PLEAS + "case x at k pleads a;case y at k pleads a b c d;");
        Check.due("plead(0, 1)", x.plead(0, 1), 6);
        Check.due("plead(0, 1) again", x.plead(0, 1), NO_VERDICT);
        Check.due("plead(0, 4)", x.plead(0, 4), 6);
        Check.due("plead(0, 2)", x.plead(0, 2), 8);
        Check.due("plead(0, 3) has 4", x.plead(0, 3), NO_VERDICT);
        Check.due("plead(1, 4) has 4", x.plead(1, 4), NO_VERDICT);
        Check.due("pleas", x.item(0, 2), 0b10111);
        Check.due("drop(0, 0)", x.drop(0, 0), 4);
        Check.due("drop(0, 0) again", x.drop(0, 0), NO_VERDICT);
        Check.due("drop(0, 3) not had", x.drop(0, 3), NO_VERDICT);
        Check.due("drop(0, 1)", x.drop(0, 1), -3);
        Check.due("drop(0, 4)", x.drop(0, 4), -3);
        Check.due("drop(0, 2) the last", x.drop(0, 2), NO_VERDICT);
        Check.due("pleas then", x.item(0, 2), 0b00100);
        for (int wrong : new int[] {-1, 5, 8, 32, Integer.MIN_VALUE, Integer.MAX_VALUE}) {
            Check.due("plead(0, " + wrong + ")", x.plead(0, wrong), NO_VERDICT);
            Check.due("plead(" + wrong + ", 0)", x.plead(wrong, 0), NO_VERDICT);
            Check.due("drop(1, " + wrong + ")", x.drop(1, wrong), NO_VERDICT);
            Check.due("drop(" + wrong + ", 0)", x.drop(wrong, 0), NO_VERDICT);
        }
        Check.due("plead(2, 0)", x.plead(2, 0), NO_VERDICT);
        Check.due("acts", x.about(8), 6);
        // One that is not held may take up and drop, too.
        x.hear(0);
        Check.due("kept", x.item(0, 1), 2);
        Check.due("plead(0, 3) kept", x.plead(0, 3), 17);
        Check.due("drop(0, 2) kept", x.drop(0, 2), 15);
        Check.due("kept still", x.item(0, 1), 2);
    }

    private static void grabbing() {
        WebCourt x = Check.court("knot k;plea a strong 9;plea b strong 1;case x at k pleads a;case y at k pleads b;"
                + "case z at k pleads a;");
        Check.due("grab(0) held", x.grab(0), NONE);
        x.hear(0);
        x.hour(0);
        x.hear(1);
        Check.due("grab(0) let off", x.grab(0), 2);
        Check.due("grab(1) kept", x.grab(1), 3);
        Check.due("grab(1) again", x.grab(1), NONE);
        Check.due("held", x.item(0, 1) + x.item(1, 1), 0);
        Check.due("before stays", x.item(0, 4), 1);
        for (int wrong : new int[] {-1, 3, 6, Integer.MIN_VALUE, Integer.MAX_VALUE}) {
            Check.due("grab(" + wrong + ")", x.grab(wrong), NONE);
        }
        Check.due("acts", x.about(8), 5);
        Check.due("heard in this hour still", x.hear(0), NONE);
    }

    private static void spinning() {
        WebCourt x = Check.court(HUB);
        Check.due("sticky", x.about(15), 0b0100);
        Check.due("spin(2)", x.spin(2), 0);
        Check.due("spin(0)", x.spin(0), 1);
        Check.due("sticky then", x.about(15), 0b0001);
        Check.due("knot(0, 0)", x.knot(0, 0), 0b1000);
        Check.due("hour(1) by a sticky line", x.hour(1), NONE);
        Check.due("hour(3) by one that is no more", x.hour(3), 0);
        for (int wrong : new int[] {-1, 4, 14, 32, Integer.MIN_VALUE, Integer.MAX_VALUE}) {
            Check.due("spin(" + wrong + ")", x.spin(wrong), NONE);
        }
        Check.due("acts", x.about(8), 3);
    }

    private static void undoing() {
        WebCourt x = Check.court("knot k;knot l;line k l;plea a strong 9;case x at k pleads a;back 50;draw 7;");
        x.hear(0);
        x.hour(1);
        Check.due("came back", x.item(0, 1), 0);
        Check.due("undo() the hour", x.undo(), true);
        Check.due("she is back", x.about(4), 0);
        Check.due("the hour", x.about(5), 0);
        Check.due("heard in it", x.about(6), 1);
        Check.due("the seed", x.about(7), 7);
        Check.due("let off", x.item(0, 1), 1);
        Check.due("undone", x.about(8) * 10 + x.about(9), 11);
        Check.due("undo() the hearing", x.undo(), true);
        Check.due("held", x.item(0, 1), 0);
        Check.due("before", x.item(0, 4), 0);
        Check.due("heard in it no more", x.about(6), 0);
        Check.due("undo() with none", x.undo(), false);
        Check.due("redo()", x.redo(), true);
        Check.due("let off again", x.item(0, 1), 1);
        Check.due("redo() the hour", x.redo(), true);
        Check.due("the seed again", x.about(7), 30);
        Check.due("at the other knot", x.about(4), 1);
        Check.due("redo() with none", x.redo(), false);
        x.undo();
        x.undo();
        Check.due("what does nothing leaves them", x.hear(7), NONE);
        Check.due("two to redo", x.about(9), 2);
        Check.due("another act", x.spin(0), 1);
        Check.due("none to redo", x.redo(), false);
        Check.due("one to undo", x.about(8), 1);
    }

    private static void fortyActs() {
        WebCourt x = Check.court("knot k;");
        for (int i = 1; i <= 45; i++) {
            x.hour(0);
            Check.due("acts kept " + i, x.about(8), Math.min(i, 40));
        }
        for (int i = 0; i < 40; i++) {
            Check.due("undo " + i, x.undo(), true);
        }
        Check.due("the hour", x.about(5), 5);
        Check.due("undo 41", x.undo(), false);
        for (int i = 0; i < 40; i++) {
            Check.due("redo " + i, x.redo(), true);
            Check.due("hour of redo " + i, x.about(5), 6 + i);
        }
        Check.due("redo 41", x.redo(), false);
        x.undo();
        x.undo();
        x.hour(0);
        x.hour(0);
        x.hour(0);
        Check.due("kept", x.about(8), 40);
        Check.due("redone", x.about(9), 0);
        for (int i = 0; i < 41; i++) {
            x.undo();
        }
        Check.due("the hour at last", x.about(5), 6);
    }

    private static void undoingAll() {
        WebCourt x = Check.court("knot k;knot l;line k l;plea a strong 9;plea b strong 5;case x at k pleads a;"
                + "case y at k pleads b;");
        x.hear(1);
        x.plead(0, 1);
        x.drop(0, 0);
        x.hour(0);
        x.hear(0);
        x.hour(0);
        x.plead(0, 0);
        x.spin(0);
        x.undo();
        Check.due("the line", x.about(15), 0);
        x.undo();
        Check.due("the plea taken up", x.item(0, 2), 0b10);
        x.undo();
        x.undo();
        Check.due("stayed", x.item(0, 5), 0);
        x.undo();
        x.undo();
        Check.due("the plea dropped", x.item(0, 2), 0b11);
        x.undo();
        x.undo();
        Check.due("as told", x.item(0, 2), 0b01);
        Check.due("case 1 stayed", x.item(1, 5), 0);
        for (int i = 0; i < 8; i++) {
            x.redo();
        }
        Check.due("all again", x.item(0, 2), 0b11);
        Check.due("the line again", x.about(15), 1);
        Check.due("stayed again", x.item(0, 5) * 10 + x.item(1, 5), 11);
        WebCourt y = Check.court("knot k;plea a strong 9;case x at k pleads a;");
        y.hear(0);
        y.grab(0);
        y.undo();
        Check.due("caught undone", y.item(0, 1), 1);
        y.redo();
        Check.due("caught again", y.item(0, 1), 0);
    }

    private static void images() {
        WebCourt x = Check.court("knot k;knot l;line k l;plea a strong 9;plea b strong 1;case x at k pleads a;back 50;draw 7;");
        x.hour(0);
        x.hear(0);
        x.plead(0, 1);
        Check.due("image(0)", x.image(0), 1);
        x.hour(1);
        x.hour(0);
        x.hear(0);
        x.drop(0, 1);
        x.spin(0);
        x.way(0);
        Check.due("image(2)", x.image(2), 3);
        x.undo();
        Check.due("restore(1) empty", x.restore(1), NONE);
        Check.due("acts are kept then", x.about(8) * 10 + x.about(9), 71);
        Check.due("restore(0)", x.restore(0), 1);
        Check.due("no acts", x.about(8) + x.about(9), 0);
        Check.due("undo()", x.undo(), false);
        Check.due("redo()", x.redo(), false);
        Check.due("she", x.about(4), 0);
        Check.due("hour", x.about(5), 1);
        Check.due("heard in it", x.about(6), 1);
        Check.due("seed", x.about(7), 7);
        Check.due("lines", x.about(15), 0);
        Check.due("case", x.item(0, 1) * 1000 + x.item(0, 2) * 100 + x.item(0, 4), 1301);
        Check.due("what lies there stays", x.lies(0), 0);
        x.hour(0);
        Check.due("an image is not changed", x.restore(0), 1);
        Check.due("restore(2)", x.restore(2), 3);
        Check.due("its line", x.about(15), 1);
        Check.due("its case", x.item(0, 1) * 1000 + x.item(0, 2) * 100 + x.item(0, 4), 1102);
        Check.due("image(0) over the other", x.image(0), 3);
        x.hour(0);
        Check.due("restore(0) is the later", x.restore(0), 3);
        for (int wrong : new int[] {-1, 3, 32, Integer.MIN_VALUE, Integer.MAX_VALUE}) {
            Check.due("image(" + wrong + ")", x.image(wrong), NONE);
            Check.due("restore(" + wrong + ")", x.restore(wrong), NONE);
        }
        x.later(4);
        x.heard(0, 1, true);
        x.restore(0);
        Check.due("heard and time stay", x.about(10) * 10 + x.about(11), 14);
    }

    private static void about() {
        WebCourt x = Check.court(HUB + PLEAS + "case x at eave pleads a;case y at rim pleads d;law pleads - (5);"
                + "draw 77;bench eave;");
        Check.feed(x, "knot");
        x.later(3);
        x.heard(0, 0, false);
        x.heard(1, 0, false);
        x.untell(0);
        x.hear(0);
        x.hour(1);
        x.hour(2);
        x.undo();
        x.way(0);
        int[] due = {2, 4, 4, 5, 1, 1, 0, 77, 2, 1, 2, 3, 4, 3, 2, 4};
        for (int what = 0; what < due.length; what++) {
            Check.due("about(" + what + ")", x.about(what), due[what]);
        }
        x.hear(1);
        Check.due("about(6)", x.about(6), 1);
        for (int wrong : new int[] {-1, 16, 100, Integer.MIN_VALUE, Integer.MAX_VALUE}) {
            Check.due("about(" + wrong + ")", x.about(wrong), NONE);
        }
    }
}
