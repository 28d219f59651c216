/** The sentences of part 2, and of promises 6 to 17 and 45 to 47, that name a boundary: each by itself. */
final class EdgeCourt {
    private static final int NONE = WebCourt.NONE;
    private static final int NO_VERDICT = -1000000000;
    private static final int MIN = Integer.MIN_VALUE;
    private static final int MAX = Integer.MAX_VALUE;
    // Without a law 9 is let off, 5 stays, 1 is kept.
    private static final String THREE = "knot a;knot b;line a b;plea p strong 9;plea q strong 5;plea r strong 1;"
            + "case x at a pleads p;case y at a pleads q;case z at a pleads r;";
    private static final String ALONE = "knot a;plea p strong 7;case x at a pleads p;";

    private EdgeCourt() {
    }

    static void run() {
        atFirst();
        reckoning();
        hearings();
        beforeOfEach();
        stayedOfEach();
        hours();
        comingBack();
        acts();
        undoing();
        looking();
        hourAndHear();
        pleadAndDrop();
        grabAndSpin();
        undoAndRedo();
        images();
        about();
    }

    private static int law(String formula) {
        return Check.court(ALONE + "law " + formula + ";").verdict(0);
    }

    private static void atFirst() {
        Check.says(0, "SHE is at a KNOT (bench, at first).");
        Check.due("the bench", Check.court("knot a;knot b;bench b;").about(4), 1);
        Check.due("the first knot", Check.court("knot a;knot b;").about(4), 0);
        Check.due("no knot", Check.court("").about(4), NONE);
        Check.says(0, "it was LET OFF so often BEFORE, STAYED so often (0 both at first)");
        WebCourt x = Check.court(THREE);
        for (int item = 0; item < 3; item++) {
            Check.due("state of " + item, x.item(item, 1), 0);
            Check.due("before of " + item, x.item(item, 4), 0);
            Check.due("stayed of " + item, x.item(item, 5), 0);
        }
        Check.says(0, "(pleads - 5 - before * 2, if it is not told)");
        Check.due("verdict(0)", x.verdict(0), 4);
        Check.due("verdict(1)", x.verdict(1), 0);
        Check.due("verdict(2)", x.verdict(2), -4);
        x.hear(0);
        Check.due("verdict(0), let off once", x.verdict(0), 2);
        Check.says(0, "kin (how many other CASES are HELD at its KNOT)");
        WebCourt kin = Check.court("knot a;knot b;plea p strong 9;case w at b pleads p;case x at a pleads p;"
                + "case y at a pleads p;case z at a pleads p;bench a;law kin;");
        Check.due("alone", kin.verdict(0), 0);
        Check.due("with two others", kin.verdict(1), 2);
        Check.due("y is let off", kin.hear(2), 1);
        Check.due("with one other", kin.verdict(1), 1);
        Check.due("one that is not held has two", kin.verdict(2), 2);
        Check.says(0, "hour (0 at first");
        WebCourt hour = Check.court(ALONE + "law hour;");
        Check.due("hour", hour.verdict(0), 0);
        hour.hour(0);
        Check.due("hour then", hour.verdict(0), 1);
    }

    private static void reckoning() {
        Check.says(0, "ints, wrapping");
        Check.due("32768 * 32768 * 2 - 1", law("4096*8*4096*8*2-1"), MAX);
        Check.due("32768 * 32768 * 2", law("4096*8*4096*8*2"), MIN);
        Check.due("and 1 less", law("4096*8*4096*8*2-1-1+1+1"), MIN);
        Check.due("32768 * 32768 * 4", law("4096*8*4096*8*4"), 0);
        Check.due("by - 1", law("(4096*8*4096*8*2)*(0-1)"), MIN);
        Check.due("9999 to the fourth", law("9999*9999*9999*9999"), 9999 * 9999 * 9999 * 9999);
        Check.due("it is kept by that", Check.court(ALONE + "law 4096*8*4096*8*2;").hear(0), 2);
        Check.says(0, "/ cut, % its rest, both by 0: 0");
        Object[] due = {"7/2", 3, "(0-7)/2", -3, "7/(0-2)", -3, "(0-7)/(0-2)", 3, "7%2", 1, "(0-7)%2", -1, "7%(0-2)", 1,
            "(0-7)%(0-2)", -1, "1/2", 0, "(0-1)/2", 0, "7/0", 0, "(0-7)/0", 0, "7%0", 0, "0/0", 0, "0%0", 0,
            "9+7/(3-3)*5", 9, "9+7%before", 9, "(4096*8*4096*8*2)/(0-1)", MIN, "(4096*8*4096*8*2)%(0-1)", 0};
        for (int i = 0; i < due.length; i += 2) {
            Check.due("law " + due[i], law((String) due[i]), (int) due[i + 1]);
        }
        Check.says(0, "relations, and, or, not are 1 or 0, of what is not 0");
        Object[] truth = {"2<3", 1, "3<3", 0, "4<3", 0, "4>3", 1, "3>3", 0, "2>3", 0, "3=3", 1, "3=2", 0, "(0-1)<0", 1,
            "5 and 5", 1, "5 and (0-5)", 1, "5 and 0", 0, "0 and 5", 0, "5 or 0", 1, "0 or (0-5)", 1, "0 or 0", 0,
            "not 0", 1, "not 1", 0, "not 9", 0, "not (0-9)", 0, "not not 9", 1, "(9 or 9)+(9 and 9)", 2};
        for (int i = 0; i < truth.length; i += 2) {
            Check.due("law " + truth[i], law((String) truth[i]), (int) truth[i + 1]);
        }
        Check.says(0, "above 0 it would be LET OFF, at 0 it STAYS, below 0 it is KEPT");
        Check.due("1", Check.court(ALONE + "law pleads - 6;").hear(0), 1);
        Check.due("0", Check.court(ALONE + "law pleads - 7;").hear(0), 0);
        Check.due("-1", Check.court(ALONE + "law pleads - 8;").hear(0), 2);
        Check.due("free at 1", Check.court(ALONE + "law pleads - 6;").free(), 1);
        Check.due("free at 0", Check.court(ALONE + "law pleads - 7;").free(), 0);
    }

    private static void hearings() {
        Check.says(0, "it is LET OFF (BEFORE 1 more), STAYS (STAYED 1 more; it is HELD on), or is KEPT");
        for (int item = 0; item < 3; item++) {
            WebCourt x = Check.court(THREE);
            x.hear(item);
            Check.due("state of " + item, x.item(item, 1), new int[] {1, 0, 2}[item]);
            Check.due("before of " + item, x.item(item, 4), item == 0 ? 1 : 0);
            Check.due("stayed of " + item, x.item(item, 5), item == 1 ? 1 : 0);
        }
        Check.says(0, "(99 at most both)");
        WebCourt off = Check.court(ALONE + "law 1;");
        WebCourt stay = Check.court(ALONE + "law 0;");
        for (int i = 1; i <= 101; i++) {
            off.hear(0);
            off.grab(0);
            off.hour(0);
            stay.hear(0);
            stay.hour(0);
            if (i >= 98) {
                Check.due("before of " + i, off.item(0, 4), Math.min(i, 99));
                Check.due("stayed of " + i, stay.item(0, 5), Math.min(i, 99));
            }
        }
        Check.due("stays, stayed 99", stay.hear(0), 0);
        Check.due("that is an act all the same", stay.undo(), true);
        Check.says(0, "Once an HOUR at the most one is heard.");
        WebCourt x = Check.court(THREE);
        Check.due("hear(1) stays", x.hear(1), 0);
        for (int item = 0; item < 3; item++) {
            Check.due("hear(" + item + ") in the same hour", x.hear(item), NONE);
        }
        x.hour(0);
        Check.due("hear(1) in the next hour", x.hear(1), 0);
        x.undo();
        Check.due("hear(0), the other being undone", x.hear(0), 1);
    }

    private static final String ALL_SIX = "knot a;plea p strong 3;case s at a pleads p;case t at a pleads p;"
            + "case u at a pleads p;case v at a pleads p;case w at a pleads p;case x at a pleads p;";

    private static void beforeOfEach() {
        Check.says(0, "it was LET OFF so often BEFORE, STAYED so often");
        WebCourt x = Check.court(ALL_SIX + "law (hour > 0 and hour < 20) + (hour = 0)*(before - 3) + (hour > 25)*(before - 2);");
        for (int item = 1; item < 6; item++) {
            for (int i = 0; i < item; i++) {
                x.hour(0);
                Check.due("hear(" + item + ")", x.hear(item), 1);
                x.grab(item);
            }
        }
        for (int i = 15; i < 20; i++) {
            x.hour(0);
        }
        for (int item = 0; item < 6; item++) {
            Check.due("before of " + item, x.item(item, 4), item);
            Check.due("stayed of " + item, x.item(item, 5), 0);
            // From the hour 20 on it stays till the hour 26.
            Check.due("leave(" + item + ")", x.leave(item), item < 3 ? NONE : 7);
            Check.due("loophole(" + item + ")", x.loophole(item), item > 3 ? 0 : 1);
        }
        for (int i = 20; i < 26; i++) {
            x.hour(0);
        }
        for (int item = 0; item < 6; item++) {
            Check.due("verdict(" + item + ")", x.verdict(item), item - 2);
        }
        Check.due("precedent(2)", x.precedent(2), 0);
        Check.due("precedent(3)", x.precedent(3), 6);
        Check.due("free()", x.free(), 0b111000);
        Check.due("likeliest()", x.likeliest(), 5);
    }

    private static void stayedOfEach() {
        Check.says(0, "it was LET OFF so often BEFORE, STAYED so often");
        WebCourt x = Check.court(ALL_SIX + "plea q strong 1;law stays * (hour > 20);");
        for (int item = 1; item < 6; item++) {
            for (int i = 0; i < item; i++) {
                Check.due("hear(" + item + ")", x.hear(item), 0);
                x.hour(0);
            }
        }
        for (int i = 15; i < 21; i++) {
            x.hour(0);
        }
        for (int item = 0; item < 6; item++) {
            Check.due("stayed of " + item, x.item(item, 5), item);
            Check.due("before of " + item, x.item(item, 4), 0);
            Check.due("verdict(" + item + ")", x.verdict(item), item);
            Check.due("advice(" + item + ", 1)", x.advice(item, 1), item);
            Check.due("shortest(" + item + ", 0)", x.shortest(item, 0), item == 0 ? NONE : 1);
            Check.due("leave(" + item + ")", x.leave(item), item == 0 ? 2 : 1);
            Check.due("loophole(" + item + ")", x.loophole(item), item == 0 ? NONE : 21);
        }
        Check.due("precedent(9)", x.precedent(9), 5);
        Check.due("hopeless()", x.hopeless(), 1);
    }

    private static void hours() {
        Check.says(0, "SHE goes to a KNOT next to hers by a LINE that is not sticky, or waits; the hour goes up by 1");
        WebCourt x = Check.court("knot a;knot b;knot c;knot d;line b a;line c b sticky;line c d;");
        Check.due("waits", x.hour(0), 0);
        Check.due("the hour", x.about(5), 1);
        Check.due("to b", x.hour(1), 0);
        Check.due("to c by a sticky line", x.hour(2), NONE);
        Check.due("to d without a line", x.hour(3), NONE);
        Check.due("where she is", x.about(4), 1);
        Check.due("the hour then", x.about(5), 2);
        x.spin(1);
        Check.due("to c", x.hour(2), 0);
        Check.due("the hour at last", x.about(5), 3);
    }

    private static void comingBack() {
        String all = "knot a;plea p strong 9;case x at a pleads p;case y at a pleads p;case z at a pleads p;law 1;";
        Check.says(0, "the SEED (draw, at first) becomes its 137-fold and 71 more, modulo 1,000");
        int[] seeds = {0, 71, 999, 934, 1, 208, 7, 30, 500, 571, 993, 112};
        for (int i = 0; i < seeds.length; i += 2) {
            WebCourt x = Check.court(all + "draw " + seeds[i] + ";");
            x.hear(0);
            x.hour(0);
            Check.due("the seed behind " + seeds[i], x.about(7), seeds[i + 1]);
        }
        Check.says(0, "CASE by CASE that is LET OFF");
        WebCourt x = Check.court(all + "draw 7;");
        x.hour(0);
        Check.due("nobody is let off: the seed", x.about(7), 7);
        x.hear(1);
        x.hour(0);
        Check.due("one: the seed", x.about(7), 30);
        x.hear(0);
        x.hour(0);
        Check.due("two: the seed", x.about(7), 868);
        // From 52: 195; 786 and 753; 232, 855 and 206.
        WebCourt three = Check.court(all + "draw 52;back 50;");
        for (int item = 0; item < 3; item++) {
            three.hear(item);
            Check.due("who comes back in hour " + item, three.hour(0), item < 2 ? 0 : 0b101);
        }
        Check.due("held then", three.knot(0, 2), 0b101);
        Check.due("the seed of all three", three.about(7), 206);
        WebCourt six = Check.court(ALL_SIX + "knot b;line a b sticky;law 0;draw 7;back 100;");
        Check.due("nobody of six is let off", six.hour(0), 0);
        Check.due("no seed is drawn for six", six.about(7), 7);
        WebCourt kept = Check.court(ALONE + "law 0-1;back 100;draw 7;");
        kept.hear(0);
        Check.due("who is kept does not come back", kept.hour(0), 0);
        Check.due("and no seed is drawn for it", kept.about(7), 7);
        Check.says(0, "if its rest by 100 is less than back tells, it is HELD again");
        // From 7 the seed becomes 30.
        int[] back = {0, 0, 30, 0, 31, 1, 100, 1};
        for (int i = 0; i < back.length; i += 2) {
            WebCourt y = Check.court(ALONE + "law 1;draw 7;back " + back[i] + ";");
            y.hear(0);
            Check.due("hour(0), back " + back[i], y.hour(0), back[i + 1]);
            Check.due("state, back " + back[i], y.item(0, 1), 1 - back[i + 1]);
        }
        // From 44 the seed becomes 99.
        WebCourt z = Check.court(ALONE + "law 1;draw 44;back 99;");
        z.hear(0);
        Check.due("99 is not below 99", z.hour(0), 0);
        WebCourt hundred = Check.court(ALONE + "law 1;draw 44;back 100;");
        hundred.hear(0);
        Check.due("99 is below 100", hundred.hour(0), 1);
        // From 517 the seed becomes 900.
        WebCourt nine = Check.court(ALONE + "law 1;draw 517;back 1;");
        nine.hear(0);
        Check.due("0 is below 1", nine.hour(0), 1);
        // 137 * 847 + 71 = 116110: the rest of 110 is 10.
        WebCourt rest = Check.court(ALONE + "law 1;draw 847;back 11;");
        rest.hear(0);
        Check.due("10 is below 11", rest.hour(0), 1);
    }

    private static void acts() {
        Check.says(0, "ACTS: an HOUR; a HEARING; a PLEA is taken up by a CASE, or dropped; a CASE that is not HELD is caught (HELD); "
                + "a LINE becomes sticky, or is no more.");
        WebCourt x = Check.court(THREE);
        x.hour(0);
        Check.due("an hour", x.about(8), 1);
        x.hear(0);
        Check.due("a hearing", x.about(8), 2);
        x.plead(0, 1);
        Check.due("a plea is taken up", x.about(8), 3);
        x.drop(0, 0);
        Check.due("a plea is dropped", x.about(8), 4);
        x.grab(0);
        Check.due("a case is caught", x.about(8), 5);
        x.spin(0);
        Check.due("a line becomes sticky", x.about(8), 6);
        x.spin(0);
        Check.due("it is no more", x.about(8), 7);
        int[] sticky = {1, 0, 0, 0, 0, 0, 0};
        int[] state = {0, 0, 1, 1, 1, 0, 0};
        int[] pleas = {2, 2, 2, 3, 1, 1, 1};
        int[] hour = {1, 1, 1, 1, 1, 1, 0};
        for (int i = 0; i < 7; i++) {
            Check.due("undo() " + i, x.undo(), true);
            Check.due("sticky " + i, x.about(15), sticky[i]);
            Check.due("state " + i, x.item(0, 1), state[i]);
            Check.due("pleas " + i, x.item(0, 2), pleas[i]);
            Check.due("hour " + i, x.about(5), hour[i]);
        }
        Check.due("no more acts", x.undo(), false);
        Check.due("an image is no act", x.image(0) + x.about(8), 0);
        Check.due("a way is no act", x.way(1) * 10 + x.about(8), 10);
    }

    private static void undoing() {
        Check.says(0, "UNDO takes back the latest ACT that was not");
        WebCourt x = Check.court(THREE);
        x.hour(0);
        x.hour(0);
        x.hour(0);
        Check.due("undo()", x.undo(), true);
        Check.due("undo() again", x.undo(), true);
        Check.due("the hour", x.about(5), 1);
        Check.says(0, "REDO does that again which was taken back last (till another ACT)");
        Check.due("redo()", x.redo(), true);
        Check.due("the hour then", x.about(5), 2);
        Check.due("another act", x.spin(0), 1);
        Check.due("redo() behind it", x.redo(), false);
        Check.due("the hour still", x.about(5), 2);
        Check.says(0, "40 at most are kept, the oldest go");
        WebCourt y = Check.court(THREE);
        for (int i = 1; i <= 41; i++) {
            y.hour(0);
            if (i >= 39) {
                Check.due("acts kept of " + i, y.about(8), Math.min(i, 40));
            }
        }
        for (int i = 40; i > 0; i--) {
            Check.due("undo(), " + i + " being kept", y.undo(), true);
            Check.due("acts that are left", y.about(8), i - 1);
            Check.due("acts to redo", y.about(9), 41 - i);
        }
        Check.due("undo(), none being kept", y.undo(), false);
        Check.due("the oldest is gone: the hour", y.about(5), 1);
        for (int i = 1; i <= 40; i++) {
            Check.due("redo() " + i, y.redo(), true);
        }
        Check.due("redo() 41", y.redo(), false);
        Check.due("the hour at last", y.about(5), 41);
    }

    private static void looking() {
        Check.says(6, "NONE if there is none such, or for another what");
        WebCourt x = Check.court(THREE);
        for (int knot : new int[] {-1, 2, 8, 32, MIN, MAX}) {
            for (int what = 0; what < 3; what++) {
                Check.due("knot(" + knot + ", " + what + ")", x.knot(knot, what), NONE);
            }
        }
        for (int what : new int[] {-1, 3, MIN, MAX}) {
            Check.due("knot(0, " + what + ")", x.knot(0, what), NONE);
        }
        Check.due("knot(1, 2) without cases", x.knot(1, 2), 0);
        Check.due("knot(1, 1) without such lines", x.knot(1, 1), 0);
        Check.says(7, "NONE if there is none such");
        for (int plea : new int[] {-1, 3, 8, 32, MIN, MAX}) {
            Check.due("plea(" + plea + ")", x.plea(plea), NONE);
        }
        Check.due("plea(2)", x.plea(2), 1);
        Check.says(8, "NONE if there is none such, or for another what");
        for (int item : new int[] {-1, 3, 6, 32, MIN, MAX}) {
            for (int what = 0; what < 6; what++) {
                Check.due("item(" + item + ", " + what + ")", x.item(item, what), NONE);
            }
        }
        for (int what : new int[] {-1, 6, MIN, MAX}) {
            Check.due("item(0, " + what + ")", x.item(0, what), NONE);
        }
        Check.says(9, "VERDICT with its PLEAS (whether it is HELD or not)");
        x.hear(0);
        Check.due("verdict(0), let off", x.verdict(0), 2);
        x.hour(0);
        x.hear(2);
        Check.due("verdict(2), kept", x.verdict(2), -4);
        Check.says(9, "-1000000000 if there is none such");
        for (int item : new int[] {-1, 3, 6, 32, MIN, MAX}) {
            Check.due("verdict(" + item + ")", x.verdict(item), NO_VERDICT);
        }
    }

    private static void hourAndHear() {
        Check.says(10, "-1, doing nothing, if there is no such LINE that is not sticky, no such KNOT, or behind 999 HOURS");
        WebCourt x = Check.court("knot a;knot b;knot c;line a b;line a c sticky;");
        for (int knot : new int[] {-1, 2, 3, 8, 32, MIN, MAX}) {
            Check.due("hour(" + knot + ")", x.hour(knot), NONE);
        }
        x.hour(1);
        Check.due("hour(2) without a line", x.hour(2), NONE);
        Check.due("hours", x.about(5), 1);
        Check.due("acts", x.about(8), 1);
        Check.due("where she is", x.about(4), 1);
        // An object comes to 999 only behind its 512th call; the limit is kept there, too.
        WebCourt y = Check.court("knot a;");
        for (int i = 0; i < 998; i++) {
            y.hour(0);
        }
        Check.due("the 999th", y.hour(0), 0);
        Check.due("the hour", y.about(5), 999);
        Check.due("the 1000th", y.hour(0), NONE);
        Check.due("the hour still", y.about(5), 999);
        y.undo();
        Check.due("the 999th again", y.hour(0), 0);
        Check.says(11, "NONE, doing nothing, if it is not HELD where SHE is, one was heard in this HOUR, or there is none such");
        WebCourt z = Check.court(THREE);
        for (int item : new int[] {-1, 3, 6, 32, MIN, MAX}) {
            Check.due("hear(" + item + ")", z.hear(item), NONE);
        }
        z.hour(1);
        Check.due("hear(0) elsewhere", z.hear(0), NONE);
        Check.due("none was heard", z.about(6), 0);
        z.hour(0);
        Check.due("hear(0)", z.hear(0), 1);
        Check.due("hear(1), one was heard", z.hear(1), NONE);
        z.hour(0);
        Check.due("hear(0), let off", z.hear(0), NONE);
        Check.due("hear(2)", z.hear(2), 2);
        z.hour(0);
        Check.due("hear(2), kept", z.hear(2), NONE);
        Check.due("acts", z.about(8), 6);
        Check.due("hear(1)", z.hear(1), 0);
    }

    private static void pleadAndDrop() {
        String five = "knot k;plea a strong 1;plea b strong 2;plea c strong 4;plea d strong 8;plea e strong 16;";
        Check.says(12, "-1000000000, doing nothing, if it has it, or 4, or one can't be");
        WebCourt x = Check.court(five + "case x at k pleads a b c;case y at k pleads e d c b;");
        Check.due("plead(0, 2), it has it", x.plead(0, 2), NO_VERDICT);
        Check.due("plead(1, 0), it has 4", x.plead(1, 0), NO_VERDICT);
        Check.due("plead(1, 4), it has 4 and this", x.plead(1, 4), NO_VERDICT);
        for (int wrong : new int[] {-1, 5, 8, 32, 35, MIN, MAX}) {
            Check.due("plead(0, " + wrong + ")", x.plead(0, wrong), NO_VERDICT);
            Check.due("plead(" + wrong + ", 3)", x.plead(wrong, 3), NO_VERDICT);
        }
        Check.due("plead(2, 0)", x.plead(2, 0), NO_VERDICT);
        Check.due("acts", x.about(8), 0);
        Check.due("plead(0, 4), the fourth", x.plead(0, 4), 18);
        Check.due("plead(0, 3), it has 4", x.plead(0, 3), NO_VERDICT);
        Check.due("pleas", x.item(0, 2), 0b10111);
        Check.says(13, "-1000000000, doing nothing, if it has it not, or no other one, or one can't be");
        WebCourt y = Check.court(five + "case x at k pleads a;case y at k pleads e a;");
        Check.due("drop(0, 1), it has it not", y.drop(0, 1), NO_VERDICT);
        Check.due("drop(0, 0), it has no other one", y.drop(0, 0), NO_VERDICT);
        for (int wrong : new int[] {-1, 5, 8, 32, 36, MIN, MAX}) {
            Check.due("drop(1, " + wrong + ")", y.drop(1, wrong), NO_VERDICT);
            Check.due("drop(" + wrong + ", 0)", y.drop(wrong, 0), NO_VERDICT);
        }
        Check.due("drop(2, 0)", y.drop(2, 0), NO_VERDICT);
        Check.due("acts", y.about(8), 0);
        Check.due("drop(1, 0), it has two", y.drop(1, 0), 11);
        Check.due("drop(1, 4), it has one", y.drop(1, 4), NO_VERDICT);
        Check.due("pleas", y.item(1, 2), 0b10000);
    }

    private static void grabAndSpin() {
        Check.says(14, "NONE, doing nothing, if it is HELD, or there is none such");
        WebCourt x = Check.court(THREE);
        Check.due("grab(0), held", x.grab(0), NONE);
        x.hear(0);
        for (int item : new int[] {-1, 3, 6, 32, MIN, MAX}) {
            Check.due("grab(" + item + ")", x.grab(item), NONE);
        }
        Check.due("acts", x.about(8), 1);
        Check.due("grab(0), let off", x.grab(0), 3);
        Check.due("grab(0), caught", x.grab(0), NONE);
        x.hour(0);
        x.hear(2);
        x.hour(0);
        x.hear(0);
        Check.due("grab(2), kept; one is let off", x.grab(2), 2);
        Check.says(15, "1 if it is sticky then, else 0; NONE, doing nothing, if there is none such");
        WebCourt y = Check.court("knot a;knot b;knot c;line a b;line b c sticky;");
        for (int line : new int[] {-1, 2, 14, 32, 33, MIN, MAX}) {
            Check.due("spin(" + line + ")", y.spin(line), NONE);
        }
        Check.due("acts", y.about(8), 0);
        Check.due("sticky", y.about(15), 2);
        Check.due("spin(0)", y.spin(0), 1);
        Check.due("spin(1)", y.spin(1), 0);
        Check.due("spin(0) again", y.spin(0), 0);
        Check.due("sticky then", y.about(15), 0);
        WebCourt last = Check.court("knot a;knot b;knot c;knot d;knot e;knot f;knot g;line a b;line a c;line a d;line a e;"
                + "line a f;line a g;line b c;line b d;line b e;line b f;line b g;line c d;line c e;line c f;");
        Check.due("spin(13), the last of 14", last.spin(13), 1);
        Check.due("sticky lines", last.about(15), 1 << 13);
    }

    private static void undoAndRedo() {
        Check.says(16, "UNDO: true; false if there is none.");
        WebCourt x = Check.court(THREE);
        Check.due("undo() with none", x.undo(), false);
        Check.due("redo() behind it", x.redo(), false);
        x.hear(7);
        x.grab(0);
        x.spin(4);
        Check.due("undo() behind what did nothing", x.undo(), false);
        x.hear(1);
        Check.due("undo() of one", x.undo(), true);
        Check.due("stayed", x.item(1, 5), 0);
        Check.due("undo() again", x.undo(), false);
        Check.says(17, "REDO: true; false if there is none.");
        Check.due("redo() of one", x.redo(), true);
        Check.due("stayed then", x.item(1, 5), 1);
        Check.due("redo() again", x.redo(), false);
        x.undo();
        x.plead(0, 0);
        x.drop(0, 0);
        x.hour(3);
        Check.due("redo() behind what did nothing", x.redo(), true);
        x.undo();
        x.hour(0);
        Check.due("redo() behind an act", x.redo(), false);
    }

    private static void images() {
        Check.says(45, "Where SHE is, CASES, LINES, the hour, whether one was heard in it, the SEED are kept in a BOX 0 .. 2: "
                + "the hour; NONE if there is none such.");
        for (int box = 0; box < 3; box++) {
            WebCourt x = Check.court(THREE + "draw 7;back 50;");
            x.hear(0);
            x.hour(1);
            x.hour(0);
            x.hear(1);
            x.plead(2, 0);
            Check.due("image(" + box + ")", x.image(box), 2);
            x.hour(1);
            x.spin(0);
            x.drop(2, 0);
            x.hour(1);
            Check.due("restore(" + box + ")", x.restore(box), 2);
            int[] due = {0, 2, 1, 30, 0, 0, 0};
            int[] what = {4, 5, 6, 7, 8, 9, 15};
            for (int i = 0; i < due.length; i++) {
                Check.due("about(" + what[i] + ") of box " + box, x.about(what[i]), due[i]);
            }
            Check.due("before of 0", x.item(0, 4), 1);
            Check.due("stayed of 1", x.item(1, 5), 1);
            Check.due("pleas of 2", x.item(2, 2), 0b101);
            Check.due("who is held", x.knot(0, 2), 0b111);
        }
        WebCourt boxes = Check.court(THREE);
        for (int box = 0; box < 3; box++) {
            Check.due("image(" + box + ") of three", boxes.image(box), box);
            boxes.hour(0);
        }
        for (int box = 0; box < 3; box++) {
            Check.due("restore(" + box + ") of three", boxes.restore(box), box);
        }
        WebCourt y = Check.court(THREE);
        for (int box : new int[] {-1, 3, 32, MIN, MAX}) {
            Check.due("image(" + box + ")", y.image(box), NONE);
        }
        for (int box = 0; box < 3; box++) {
            Check.due("no box has been filled by these", y.restore(box), NONE);
        }
        Check.says(46, "All is as it was kept (no ACTS are kept then): the hour; NONE, doing nothing, if nothing was.");
        y.image(1);
        y.hour(0);
        y.hour(0);
        y.undo();
        for (int box : new int[] {-1, 0, 2, 3, 32, 33, MIN, MAX}) {
            Check.due("restore(" + box + ")", y.restore(box), NONE);
        }
        Check.due("acts are kept on", y.about(8) * 10 + y.about(9), 11);
        Check.due("the hour", y.about(5), 1);
        Check.due("restore(1)", y.restore(1), 0);
        Check.due("undo()", y.undo(), false);
        Check.due("redo()", y.redo(), false);
        y.hour(0);
        Check.due("a box is not emptied", y.restore(1), 0);
    }

    private static void about() {
        Check.says(47, "4: where SHE is (-1 without KNOTS)");
        Check.due("about(4) without knots", Check.court("plea p strong 1;").about(4), NONE);
        Check.due("about(4)", Check.court("knot a;").about(4), 0);
        Check.says(47, "6: 1 if one was heard in it, else 0");
        WebCourt x = Check.court(THREE);
        Check.due("about(6)", x.about(6), 0);
        x.hear(1);
        Check.due("about(6) behind a hearing", x.about(6), 1);
        x.hour(0);
        Check.due("about(6) in the next hour", x.about(6), 0);
        Check.says(47, "8: ACTS that can be undone, 9: redone");
        Check.due("about(8)", x.about(8), 2);
        x.undo();
        Check.due("about(8), about(9)", x.about(8) * 10 + x.about(9), 11);
        Check.says(47, "10: what is HEARD, 11: the TIME, 12: bytes on the TAPE, 13: units, 14: numbers that lie there, "
                + "15: LINES that are sticky, as bits.");
        WebCourt y = Check.court(THREE + "law pleads - (5);");
        y.later(1000);
        y.heard(0, 1, true);
        y.heard(1, 1, true);
        Check.feed(y, "abc");
        y.way(1);
        y.spin(0);
        int[] due = {2, 1000, 3, 3, 2, 1};
        for (int i = 0; i < due.length; i++) {
            Check.due("about(" + (10 + i) + ")", y.about(10 + i), due[i]);
        }
        Check.says(47, "NONE for another what.");
        for (int what : new int[] {-1, 16, 17, 32, MIN, MAX}) {
            Check.due("about(" + what + ")", x.about(what), NONE);
        }
    }
}
