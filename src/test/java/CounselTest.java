/** Promises 18 to 38: what would come of what, ways, rounds, and the numbers that lie there. */
public final class CounselTest {
    private static final int NONE = WebCourt.NONE;
    private static final int NO_VERDICT = -1000000000;
    private static final int[] NO_CASE = {-1, 6, 7, Integer.MIN_VALUE, Integer.MAX_VALUE};

    public static void main(String[] args) {
        shortest();
        shortestOfFour();
        honest();
        ways();
        firstWays();
        rounds();
        roundsWhenHeard();
        roundsThatCantBe();
        longRound();
        leaving();
        leavingStopsAtNinetyNine();
        contraries();
        hopeless();
        rivals();
        rivalsWithoutRest();
        bridges();
        forbidding();
        swapping();
        advising();
        freeAndReach();
        fashionAndLikeliest();
        loopholes();
        precedents();
        odds();
        lying();
        Check.finish();
    }

    private static void pleas(String call, int many, int set, int manyDue, int setDue) {
        Check.due(call + ": how many", many, manyDue);
        Check.due(call + ": which", set, setDue);
    }

    private static void shortest() {
        WebCourt x = Check.court("knot k;plea a strong 4;plea b strong 7;plea c strong 2;plea d strong 6;plea e strong 1;"
                + "case x at k pleads c e;case y at k pleads a c e;");
        pleas("of 7 and 6 the least set", x.shortest(0, 0), x.shortest(0, 1), 1, 0b00010);
        x.hear(0);
        pleas("not held", x.shortest(0, 0), x.shortest(0, 1), NONE, NONE);
        x.grab(0);
        Check.due("shortest(0, 2)", x.shortest(0, 2), NONE);
        Check.due("shortest(0, -1)", x.shortest(0, -1), NONE);
        Check.due("shortest(2, 0)", x.shortest(2, 0), NONE);
        for (int item : NO_CASE) {
            Check.due("shortest(" + item + ", 0)", x.shortest(item, 0), NONE);
        }
        WebCourt once = Check.court("knot k;plea a strong 4;plea b strong 7;case x at k pleads b;");
        once.hear(0);
        once.grab(0);
        pleas("let off once: 7 will not do", once.shortest(0, 0), once.shortest(0, 1), 2, 0b11);
        WebCourt sums = Check.court("knot k;plea a strong 1;plea b strong 2;plea c strong 3;plea d strong 4;"
                + "case x at k pleads a;law pleads = 5;");
        pleas("2 + 3 ahead of 1 + 4", sums.shortest(0, 0), sums.shortest(0, 1), 2, 0b0110);
        WebCourt any = Check.court("knot k;plea a strong 1;case x at k pleads a;law 1;");
        pleas("one at the least", any.shortest(0, 0), any.shortest(0, 1), 1, 1);
    }

    private static void shortestOfFour() {
        String six = "knot k;plea a strong 2;plea b strong 2;plea c strong 2;plea d strong 2;plea e strong 2;"
                + "plea f strong 2;case x at k pleads a f;";
        WebCourt four = Check.court(six + "law pleads - 7;");
        pleas("four", four.shortest(0, 0), four.shortest(0, 1), 4, 0b1111);
        Check.due("no hopeless", four.hopeless(), 0);
        WebCourt five = Check.court(six + "law pleads - 9;");
        pleas("five would do", five.shortest(0, 0), five.shortest(0, 1), NONE, NONE);
        Check.due("hopeless", five.hopeless(), 1);
        WebCourt many = Check.court(six + "law many - 2;");
        pleas("by how many", many.shortest(0, 0), many.shortest(0, 1), 3, 0b111);
        WebCourt few = Check.court(six + "law (many = 1) * (pleads - 5) + (many = 4);");
        pleas("not by one", few.shortest(0, 0), few.shortest(0, 1), 4, 0b1111);
    }

    private static void honest() {
        WebCourt x = Check.court("knot k;plea a strong 4;plea b strong 7;plea c strong 2;plea d strong 6;plea e strong 1;"
                + "case x at k pleads c e;case y at k pleads e a c;case z at k pleads a b d e;");
        pleas("by none of them", x.honest(0, 0), x.honest(0, 1), NONE, NONE);
        pleas("4 + 2", x.honest(1, 0), x.honest(1, 1), 2, 0b00101);
        pleas("7", x.honest(2, 0), x.honest(2, 1), 1, 0b00010);
        x.plead(0, 1);
        pleas("what was taken up is not honest", x.honest(0, 0), x.honest(0, 1), NONE, NONE);
        x.drop(2, 1);
        pleas("what was dropped is", x.honest(2, 0), x.honest(2, 1), 1, 0b00010);
        x.hear(2);
        pleas("not held", x.honest(2, 0), x.honest(2, 1), NONE, NONE);
        Check.due("honest(1, 2)", x.honest(1, 2), NONE);
        Check.due("honest(1, -1)", x.honest(1, -1), NONE);
        for (int item : NO_CASE) {
            Check.due("honest(" + item + ", 0)", x.honest(item, 0), NONE);
        }
        Check.due("honest(3, 0)", x.honest(3, 0), NONE);
    }

    private static void ways() {
        WebCourt x = Check.court("knot a;knot b;knot c;knot d;knot e;line a b;line b c;line c d;line a d sticky;");
        Check.due("way(3)", x.way(3), 3);
        Check.lie("way(3)", x, 0, 1, 2, 3);
        Check.due("way(0)", x.way(0), 0);
        Check.lie("way(0)", x, 0);
        Check.due("way(4)", x.way(4), NONE);
        Check.lie("way(4)", x);
        x.spin(3);
        Check.due("way(3) by the line that is free", x.way(3), 1);
        Check.lie("way(3) then", x, 0, 3);
        for (int knot : new int[] {-1, 5, 8, Integer.MIN_VALUE, Integer.MAX_VALUE}) {
            x.way(3);
            Check.due("way(" + knot + ")", x.way(knot), NONE);
            Check.lie("way(" + knot + ")", x);
        }
        x.hour(3);
        Check.due("way(1) from d", x.way(1), 2);
        Check.lie("way(1) from d", x, 3, 0, 1);
        Check.due("nothing is done", x.about(4), 3);
    }

    private static void firstWays() {
        // From f to a there are ways of three hours over e b, d b and d c; the lines are told in another order.
        WebCourt x = Check.court("knot a;knot b;knot c;knot d;knot e;knot f;line f e;line e b;line f d;line d c;line d b;"
                + "line c a;line b a;bench f;");
        Check.due("way(0)", x.way(0), 3);
        Check.lie("way(0)", x, 5, 3, 1, 0);
        x.spin(4);
        Check.due("way(0) without d b", x.way(0), 3);
        Check.lie("way(0) without d b", x, 5, 3, 2, 0);
        x.spin(2);
        Check.lie("way(0) over e", x, 5, 3, 2, 0);
        Check.due("way(0) over e", x.way(0), 3);
        Check.lie("way(0) over e then", x, 5, 4, 1, 0);
        WebCourt longest = Check.court("knot a;knot b;knot c;knot d;knot e;knot f;knot g;knot h;line a b;line b c;"
                + "line c d;line d e;line e f;line f g;line g h;bench h;");
        Check.due("the longest way", longest.way(0), 7);
        Check.lie("the longest way", longest, 7, 6, 5, 4, 3, 2, 1, 0);
    }

    private static final String STAR = "knot h;knot a;knot b;line h a;line h b;plea p strong 5;";

    private static void rounds() {
        WebCourt x = Check.court(STAR + "case x at a pleads p;case y at b pleads p;case z at h pleads p;");
        Check.due("round()", x.round(), 3);
        Check.lie("round()", x, 0, 2, 1);
        int[] due = {1, 2, 2, 3, 3};
        for (int n = 0; n < due.length; n++) {
            Check.due("term(" + n + ")", x.term(n), due[n]);
        }
        Check.due("term(30)", x.term(30), 3);
        Check.due("term(31)", x.term(31), NONE);
        Check.due("term(-1)", x.term(-1), NONE);
        Check.due("term(min)", x.term(Integer.MIN_VALUE), NONE);
        Check.lie("term()", x, 0, 2, 1);
        WebCourt one = Check.court(STAR + "case x at h pleads p;");
        Check.due("round() of one here", one.round(), 0);
        Check.lie("round() of one here", one, 0);
        WebCourt both = Check.court(STAR + "case x at a pleads p;case y at a pleads p;case z at h pleads p;");
        Check.due("round() of two at one knot", both.round(), 2);
        Check.lie("round() of two at one knot", both, 2, 0, 1);
        Check.due("nothing is done", both.about(5) + both.about(8), 0);
    }

    private static void roundsWhenHeard() {
        WebCourt x = Check.court(STAR + "case x at a pleads p;case y at h pleads p;");
        Check.due("round() ahead of it", x.round(), 1);
        Check.lie("round() ahead of it", x, 1, 0);
        Check.due("it stays", x.hear(1), 0);
        Check.due("round()", x.round(), 2);
        Check.lie("round()", x, 0, 1);
        Check.due("term(0)", x.term(0), 0);
        Check.due("term(1)", x.term(1), 1);
        Check.due("term(2)", x.term(2), 2);
        x.hour(0);
        Check.due("round() in the next hour", x.round(), 1);
    }

    private static void roundsThatCantBe() {
        WebCourt x = Check.court(STAR + "knot far;line b far sticky;case x at far pleads p;case y at a pleads p;");
        x.way(1);
        Check.due("round() with one that is far", x.round(), NONE);
        Check.lie("round() with one that is far", x);
        Check.due("term(30)", x.term(30), 1);
        x.spin(2);
        Check.due("round() then", x.round(), 4);
        Check.lie("round() then", x, 1, 0);
        WebCourt off = Check.court("knot h;plea p strong 9;case x at h pleads p;");
        off.hear(0);
        Check.due("round() with none held", off.round(), NONE);
        Check.lie("round() with none held", off);
        Check.due("term(5) with none held", off.term(5), 0);
        off.grab(0);
        Check.due("round() when caught", off.round(), 1);
    }

    private static void longRound() {
        // A chain of eight, she at one end; five far off and one near: 7 hours to the end and 4 more there.
        WebCourt x = Check.court("knot a;knot b;knot c;knot d;knot e;knot f;knot g;knot h;line a b;line b c;line c d;"
                + "line d e;line e f;line f g;line g h;plea p strong 1;case x at h pleads p;case y at h pleads p;"
                + "case z at b pleads p;case v at h pleads p;case w at h pleads p;case u at h pleads p;");
        Check.due("round()", x.round(), 11);
        Check.lie("round()", x, 2, 0, 1, 3, 4, 5);
        Check.due("term(0)", x.term(0), 0);
        Check.due("term(6)", x.term(6), 1);
        Check.due("term(7)", x.term(7), 2);
        Check.due("term(10)", x.term(10), 5);
        Check.due("term(11)", x.term(11), 6);
    }

    private static int leave(String law) {
        return Check.court("knot k;plea p strong 3;case x at k pleads p;case y at k pleads p;law " + law + ";").leave(0);
    }

    private static void leaving() {
        Check.due("at once", leave("1"), 1);
        Check.due("by staying", leave("stays > 2"), 4);
        Check.due("by the hour", leave("hour > 28"), 30);
        Check.due("too late", leave("hour > 29"), NONE);
        Check.due("never", leave("0"), NONE);
        Check.due("kept at once", leave("0-1"), NONE);
        Check.due("kept ahead of that", leave("(stays > 3) - (stays = 2)"), NONE);
        Check.due("both go up", leave("stays + hour > 6"), 5);
        Check.due("all else as it is", leave("stays > kin"), 3);
        WebCourt x = Check.court("knot k;plea p strong 3;case x at k pleads p;law stays * 10 + hour > 33;");
        x.hear(0);
        x.hour(0);
        x.hour(0);
        // stays 1, hour 2: 12, 23, 34.
        Check.due("from now on", x.leave(0), 3);
        Check.due("nothing is done", x.item(0, 5) * 10 + x.about(5), 12);
        WebCourt off = Check.court("knot k;plea p strong 9;case x at k pleads p;");
        Check.due("held", off.leave(0), 1);
        off.hear(0);
        Check.due("not held", off.leave(0), NONE);
        for (int item : NO_CASE) {
            Check.due("leave(" + item + ")", off.leave(item), NONE);
        }
    }

    private static void leavingStopsAtNinetyNine() {
        WebCourt x = Check.court("knot k;plea p strong 9;case x at k pleads p;law stays > 99;");
        for (int i = 0; i < 98; i++) {
            x.hear(0);
            x.hour(0);
        }
        Check.due("stayed", x.item(0, 5), 98);
        Check.due("never above 99", x.leave(0), NONE);
    }

    private static void contraries() {
        WebCourt x = Check.court("knot a;knot b;plea p strong 3;plea q strong 3;case u at a pleads q;"
                + "case v at a pleads p;case w at a pleads p;case x at b pleads p;case y at b pleads q;law kin * 2 - 3;");
        // At a kin is 2: 1 each; at b kin is 1: -1 each.
        Check.due("contrary(0)", x.contrary(0), 0);
        Check.due("contrary(1)", x.contrary(1), 4);
        Check.due("contrary(2)", x.contrary(2), NONE);
        Check.due("contrary(-1)", x.contrary(-1), NONE);
        x.plead(0, 0);
        Check.due("contrary(0) with other pleas", x.contrary(0), 1);
        Check.due("contrary(1) with other pleas", x.contrary(1), 3);
        x.hear(1);
        // Kin at a is 1 now: all are kept alike.
        Check.due("contrary(0) when all are alike", x.contrary(0), NONE);
        WebCourt like = Check.court("knot a;knot b;plea p strong 3;case u at a pleads p;case v at a pleads p;"
                + "case w at b pleads p;law kin + 1;");
        Check.due("2 and 1 are both let off", like.contrary(0), NONE);
        WebCourt stay = Check.court("knot a;knot b;plea p strong 3;case u at a pleads p;case v at a pleads p;"
                + "case w at b pleads p;law kin;");
        Check.due("let off and stays", stay.contrary(0) * 10 + stay.contrary(1), 2);
    }

    private static void hopeless() {
        WebCourt x = Check.court("knot a;knot b;plea p strong 3;plea q strong 4;case u at a pleads p;"
                + "case v at b pleads p;case w at b pleads q;law pleads - 6 - kin;");
        Check.due("hopeless()", x.hopeless(), 0b110);
        x.hour(0);
        Check.due("kept", x.hear(0), 2);
        Check.due("hopeless() of those held", x.hopeless(), 0b110);
        WebCourt y = Check.court("knot b;plea p strong 3;plea q strong 4;case v at b pleads p;case w at b pleads q;"
                + "law pleads - 6 - kin;");
        y.hear(0);
        Check.due("hopeless() with one kept", y.hopeless(), 0);
    }

    private static void rivals() {
        WebCourt x = Check.court("knot k;plea a strong 4;plea b strong 7;plea c strong 2;case u at k pleads a;"
                + "case v at k pleads a b;case w at k pleads c;");
        Check.due("rivals(0, 1)", x.rivals(0, 1), 2);
        Check.lie("rivals(0, 1)", x, 0, 1);
        Check.due("rivals(2, 0)", x.rivals(2, 0), 2);
        for (int item : NO_CASE) {
            x.way(0);
            Check.due("rivals(0, " + item + ")", x.rivals(0, item), NONE);
            Check.lie("rivals(0, " + item + ")", x);
            Check.due("rivals(" + item + ", 0)", x.rivals(item, 0), NONE);
        }
        Check.due("rivals(1, 1)", x.rivals(1, 1), NONE);
        Check.due("hear(2)", x.hear(2), 2);
        Check.due("rivals(0, 2) kept", x.rivals(0, 2), NONE);
        Check.due("rivals(2, 0) kept", x.rivals(2, 0), NONE);
        WebCourt all = Check.court("knot k;plea a strong 4;plea b strong 7;plea c strong 2;case u at k pleads a;"
                + "case v at k pleads b;law 0;");
        Check.due("all rest", all.rivals(0, 1), 9);
        Check.lie("all rest", all, 0, 0);
        WebCourt clash = Check.court("knot k;plea a strong 4;plea b strong 7;plea c strong 2;case u at k pleads a;"
                + "case v at k pleads b;law many = 0 and pleads = 0;");
        Check.due("both want the same", clash.rivals(0, 1), 3);
        Check.lie("both want the same", clash, 0, 0);
        WebCourt one = Check.court("knot k;plea a strong 4;case u at k pleads a;case v at k pleads a;");
        Check.due("one plea", one.rivals(0, 1), 1);
        Check.lie("one plea", one, 0, 0);
    }

    private static void rivalsWithoutRest() {
        // u has kin and wants the same plea, w has none and wants another one.
        WebCourt x = Check.court("knot k;knot l;plea a strong 4;plea b strong 7;case u at k pleads a;"
                + "case v at k pleads b;case w at l pleads a;law kin > 0 and many = 0 or kin = 0 and many;");
        x.way(0);
        Check.due("no rest", x.rivals(0, 2), 0);
        Check.lie("no rest", x);
        // Only u (with kin) minds: 7 if it can, else 4.
        WebCourt y = Check.court("knot k;knot l;plea a strong 2;plea b strong 7;plea c strong 4;case u at k pleads a;"
                + "case v at k pleads b;case w at l pleads a;law pleads * kin;");
        Check.due("rivals(0, 2)", y.rivals(0, 2), 3);
        Check.lie("rivals(0, 2)", y, 1, 0);
        Check.due("rivals(2, 0)", y.rivals(2, 0), 3);
        Check.lie("rivals(2, 0)", y, 0, 1);
    }

    private static void bridges() {
        WebCourt x = Check.court("knot a;knot b;knot c;knot d;line a b;line b c;line c a;line c d;");
        Check.due("bridge(0)", x.bridge(0), 3);
        Check.due("bridge(1)", x.bridge(1), 3);
        Check.due("bridge(2)", x.bridge(2), NONE);
        Check.due("bridge(-1)", x.bridge(-1), NONE);
        x.spin(0);
        Check.due("bridge(0) with a sticky line", x.bridge(0), 2);
        Check.due("bridge(1) with a sticky line", x.bridge(1), 1);
        x.spin(2);
        Check.due("bridge(0) when she can't go", x.bridge(0), 1);
        Check.due("bridge(1) when she can't go", x.bridge(1), 1);
        x.spin(1);
        x.spin(3);
        Check.due("bridge(0) without such lines", x.bridge(0), NONE);
        Check.due("bridge(1) without such lines", x.bridge(1), NONE);
        WebCourt ring = Check.court("knot a;knot b;knot c;line b c;line a b;line a c;");
        Check.due("bridge(0) of a ring", ring.bridge(0), 0);
        Check.due("bridge(1) of a ring", ring.bridge(1), 3);
        WebCourt eight = Check.court("knot a;knot b;knot c;knot d;knot e;knot f;knot g;knot h;line a b;line b c;"
                + "line c d;line d e;line e f;line f g;line g h;line h a;");
        Check.due("bridge(0) of a ring of eight", eight.bridge(0), 0);
        Check.due("bridge(1) of a ring of eight", eight.bridge(1), 8);
    }

    private static void forbidding() {
        WebCourt x = Check.court("knot k;plea a strong 9;plea b strong 7;plea c strong 9;case u at k pleads b;"
                + "case v at k pleads a b;case w at k pleads c;case z at k pleads a;");
        // Without a: u, v, w; without b: v, w, z; without c: u, v, z.
        Check.due("forbid(0)", x.forbid(0), 0);
        Check.due("forbid(1)", x.forbid(1), 3);
        x.drop(1, 0);
        // Without a: u, v, w; without b: w, z; without c: u, v, z.
        Check.due("forbid(0) then", x.forbid(0), 1);
        Check.due("forbid(1) then", x.forbid(1), 2);
        Check.due("forbid(2)", x.forbid(2), NONE);
        Check.due("forbid(-1)", x.forbid(-1), NONE);
        x.hear(2);
        Check.due("forbid(1) of those held", x.forbid(1), 1);
        WebCourt many = Check.court("knot k;plea a strong 9;plea b strong 7;case u at k pleads b;law 1 - many;");
        Check.due("with none left", many.forbid(0) * 10 + many.forbid(1), 0);
        Check.due("many 0 lets off", Check.court("knot k;plea b strong 7;case u at k pleads b;law 1 - many;").forbid(1), 1);
        WebCourt none = Check.court("knot k;plea a strong 9;");
        Check.due("without cases", none.forbid(0), 0);
        Check.due("without cases, how many", none.forbid(1), 0);
        Check.due("without pleas", Check.court("knot k;").forbid(0), NONE);
    }

    private static void swapping() {
        String text = "knot k;knot l;plea a strong 9;plea b strong 2;plea c strong 6;case x at k pleads c;"
                + "case y at k pleads b;case z at l pleads a;law pleads - 5 - kin * 3;";
        // As it is only z is let off; c does at l, a at k.
        WebCourt x = Check.court(text);
        Check.due("free() as it is", x.free(), 0b100);
        Check.due("swap(0)", x.swap(0), 0);
        Check.due("swap(1)", x.swap(1), 2);
        Check.due("swap(2)", x.swap(2), 2);
        Check.due("swap(3)", x.swap(3), NONE);
        Check.due("swap(-1)", x.swap(-1), NONE);
        Check.due("nothing is done", x.item(0, 2) * 10 + x.item(2, 2), 41);
        x.hear(0);
        Check.due("x is kept", x.item(0, 1), 2);
        Check.due("swap(0) without x", x.swap(0), NONE);
        Check.due("swap(2) without x", x.swap(2), NONE);
        WebCourt y = Check.court(text.replace("case y at k pleads b", "case y at k pleads c"));
        Check.due("the first of like twos", y.swap(0) * 10 + y.swap(1), 2);
        Check.due("without cases", Check.court("knot k;").swap(0), NONE);
    }

    private static void advising() {
        WebCourt x = Check.court("knot k;plea a strong 4;plea b strong 7;plea c strong 7;plea d strong 2;plea e strong 1;"
                + "case x at k pleads a;case y at k pleads b;");
        Check.due("advice(0, 0)", x.advice(0, 0), 1);
        Check.due("advice(0, 1)", x.advice(0, 1), 6);
        x.plead(0, 1);
        Check.due("advice(0, 0) then", x.advice(0, 0), 2);
        Check.due("advice(0, 1) then", x.advice(0, 1), 13);
        Check.due("advice(0, 2)", x.advice(0, 2), NO_VERDICT);
        Check.due("advice(0, -1)", x.advice(0, -1), NO_VERDICT);
        x.plead(0, 2);
        Check.due("advice of three", x.advice(0, 0), 3);
        x.plead(0, 4);
        Check.due("advice of four", x.advice(0, 0), NO_VERDICT);
        Check.due("advice(2, 0)", x.advice(2, 0), NO_VERDICT);
        x.hear(1);
        Check.due("advice of one let off", x.advice(1, 0), NO_VERDICT);
        for (int item : NO_CASE) {
            Check.due("advice(" + item + ", 0)", x.advice(item, 0), NO_VERDICT);
        }
        WebCourt less = Check.court("knot k;plea a strong 4;plea b strong 7;plea c strong 2;case x at k pleads a;law 0-pleads;");
        Check.due("below 0", less.advice(0, 0), 2);
        Check.due("below 0, verdict", less.advice(0, 1), -6);
        WebCourt all = Check.court("knot k;plea a strong 4;case x at k pleads a;");
        Check.due("it has all", all.advice(0, 0), NO_VERDICT);
    }

    private static void freeAndReach() {
        WebCourt x = Check.court("knot a;knot b;knot c;knot d;line a b;line c d;line b c sticky;plea p strong 9;"
                + "plea q strong 5;plea r strong 1;case x at a pleads p;case y at b pleads q;case z at b pleads r;"
                + "case w at b pleads p;bench b;");
        Check.due("free()", x.free(), 0b1001);
        x.hear(3);
        Check.due("free() with one let off", x.free(), 0b0001);
        Check.due("reach()", x.reach(), 0b0011);
        x.spin(2);
        Check.due("reach() then", x.reach(), 0b1111);
        x.spin(0);
        Check.due("reach() without a b", x.reach(), 0b1110);
        x.hour(2);
        x.spin(2);
        Check.due("reach() from c", x.reach(), 0b1100);
    }

    private static void fashionAndLikeliest() {
        WebCourt x = Check.court("knot k;plea a strong 1;plea b strong 9;plea c strong 9;case x at k pleads c;"
                + "case y at k pleads b a;case z at k pleads b c;case w at k pleads a;");
        Check.due("fashion(): all have two", x.fashion(), 0);
        Check.due("likeliest()", x.likeliest(), 2);
        x.drop(1, 0);
        Check.due("fashion() then", x.fashion(), 1);
        x.hear(2);
        Check.due("fashion() of those held", x.fashion(), 0);
        Check.due("likeliest() of those held", x.likeliest(), 0);
        WebCourt off = Check.court("knot k;plea a strong 9;case x at k pleads a;");
        off.hear(0);
        Check.due("fashion() with none held", off.fashion(), 0);
        Check.due("likeliest() with none held", off.likeliest(), NONE);
        Check.due("fashion() without pleas", Check.court("knot k;").fashion(), NONE);
        WebCourt low = Check.court("knot k;plea a strong 1;plea b strong 2;case x at k pleads a;case y at k pleads b;");
        Check.due("likeliest() below 0", low.likeliest(), 1);
    }

    private static int loophole(String law) {
        return Check.court("knot k;plea p strong 3;case x at k pleads p;law " + law + ";").loophole(0);
    }

    private static void loopholes() {
        Check.due("at once", loophole("1"), 0);
        Check.due("at 3", loophole("hour > 2"), 3);
        Check.due("at 99", loophole("hour = 99"), 99);
        Check.due("at 100", loophole("hour > 99"), NONE);
        Check.due("kept ahead of it", loophole("hour - 50"), 51);
        WebCourt x = Check.court("knot k;plea p strong 3;case x at k pleads p;law (2 - hour) * (stays + 1);");
        for (int i = 0; i < 5; i++) {
            x.hour(0);
        }
        Check.due("an hour gone by", x.loophole(0), 0);
        Check.due("the hour", x.about(5), 5);
        Check.due("kept", x.hear(0), 2);
        Check.due("not held", x.loophole(0), NONE);
        for (int item : NO_CASE) {
            Check.due("loophole(" + item + ")", x.loophole(item), NONE);
        }
    }

    private static void precedents() {
        WebCourt x = Check.court("knot k;plea a strong 6;plea b strong 9;plea c strong 20;case x at k pleads a;"
                + "case y at k pleads b;case z at k pleads c b;");
        int[] due = {3, 2, 1};
        for (int n = 0; n < due.length; n++) {
            Check.due("precedent(" + n + ")", x.precedent(n), due[n]);
        }
        Check.due("precedent(11)", x.precedent(11), 1);
        Check.due("precedent(12)", x.precedent(12), 0);
        Check.due("precedent(99)", x.precedent(99), 0);
        Check.due("precedent(100)", x.precedent(100), NONE);
        Check.due("precedent(-1)", x.precedent(-1), NONE);
        x.hear(1);
        x.grab(1);
        Check.due("precedent(0) whatever was before", x.precedent(0), 3);
        x.hour(0);
        x.hear(2);
        Check.due("precedent(0) of those held", x.precedent(0), 2);
    }

    private static void odds(int back, int n, int upper, int lower) {
        WebCourt x = Check.court("back " + back + ";");
        Check.due("odds(" + n + ", 0) of " + back, x.odds(n, 0), upper);
        Check.due("odds(" + n + ", 1) of " + back, x.odds(n, 1), lower);
    }

    private static void odds() {
        odds(30, 0, 1, 1);
        odds(30, 1, 7, 10);
        odds(30, 2, 49, 100);
        odds(30, 4, 2401, 10000);
        odds(33, 4, 20151121, 100000000);
        odds(50, 3, 1, 8);
        odds(4, 2, 576, 625);
        odds(100, 0, 1, 1);
        odds(100, 1, 0, 1);
        odds(100, 4, 0, 1);
        odds(0, 4, 1, 1);
        odds(99, 4, 1, 100000000);
        WebCourt x = Check.court("back 30;");
        Check.due("odds(5, 0)", x.odds(5, 0), NONE);
        Check.due("odds(-1, 0)", x.odds(-1, 0), NONE);
        Check.due("odds(1, 2)", x.odds(1, 2), NONE);
        Check.due("odds(1, -1)", x.odds(1, -1), NONE);
    }

    private static void lying() {
        WebCourt x = Check.court("knot a;knot b;line a b;plea p strong 9;case x at b pleads p;case y at b pleads p;");
        x.way(1);
        Check.lie("way(1)", x, 0, 1);
        x.hour(1);
        x.undo();
        x.free();
        x.shortest(0, 0);
        x.image(0);
        x.restore(0);
        x.term(4);
        Check.lie("what else is asked", x, 0, 1);
        x.round();
        Check.lie("round()", x, 0, 1);
        x.rivals(0, 1);
        Check.lie("rivals(0, 1)", x, 0, 0);
        Check.due("lies(min)", x.lies(Integer.MIN_VALUE), NONE);
        Check.due("lies(max)", x.lies(Integer.MAX_VALUE), NONE);
    }
}
