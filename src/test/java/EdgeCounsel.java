/** The sentences of part 3, and of promises 18 to 38, that name a boundary: each by itself. */
final class EdgeCounsel {
    private static final int NONE = WebCourt.NONE;
    private static final int NO_VERDICT = -1000000000;
    private static final int MIN = Integer.MIN_VALUE;
    private static final int MAX = Integer.MAX_VALUE;
    private static final int[] NO_WHAT = {-1, 2, 3, MIN, MAX};
    private static final String SIX = "knot k;plea a strong 2;plea b strong 2;plea c strong 2;plea d strong 2;"
            + "plea e strong 2;plea f strong 2;";
    private static final String CHAIN = "knot a;knot b;knot c;knot d;knot e;knot f;knot g;knot h;line a b;line b c;"
            + "line c d;line d e;line e f;line f g;line g h;plea p strong 5;";
    // Without a law 9 is let off, 5 stays, 1 is kept.
    private static final String THREE = "knot a;knot b;line a b;plea p strong 9;plea q strong 5;plea r strong 1;"
            + "case x at a pleads p;case y at a pleads q;case z at a pleads r;";

    private EdgeCounsel() {
    }

    static void run() {
        shortest();
        honest();
        ways();
        rounds();
        terms();
        leaving();
        contraries();
        hopeless();
        rivals();
        bridges();
        forbidding();
        swapping();
        advising();
        freeAndReach();
        fashionAndLikeliest();
        loopholes();
        precedents();
        odds();
        lying();
    }

    /** Numbers of cases that can't be where there are three. */
    private static final int[] NO_CASE = {-1, 3, 6, 32, 33, MIN, MAX};

    private static int shortOf(WebCourt x, int item) {
        return x.shortest(item, 0) * 1000 + x.shortest(item, 1);
    }

    private static void shortest() {
        Check.says(0, "SHORT for a CASE: the fewest of all PLEAS (4 at most) with which it would be LET OFF now");
        Check.due("four", shortOf(Check.court(SIX + "case x at k pleads f;law pleads - 7;"), 0), 4000 + 0b1111);
        Check.due("five would do", Check.court(SIX + "case x at k pleads f;law pleads - 9;").shortest(0, 0), NONE);
        Check.due("more is not let off", Check.court(SIX + "case x at k pleads f;law many > 4;").shortest(0, 1), NONE);
        Check.due("one", shortOf(Check.court(SIX + "case x at k pleads f;law pleads - 1;"), 0), 1001);
        Check.due("not by none", shortOf(Check.court(SIX + "case x at k pleads f;law many < 2;"), 0), 1001);
        Check.due("by none alone", Check.court(SIX + "case x at k pleads f;law many = 0;").shortest(0, 0), NONE);
        Check.due("it stays by all", Check.court(SIX + "case x at k pleads f;law 0;").shortest(0, 0), NONE);
        Check.due("no more than there are", Check.court("knot k;plea a strong 1;case x at k pleads a;law many = 2;").shortest(0, 0), NONE);
        String eight = "knot k;plea a strong 0;plea b strong 0;plea c strong 0;plea d strong 0;plea e strong 1;plea f strong 1;"
                + "plea g strong 1;plea h strong 1;case x at k pleads a;";
        Check.due("the last four", shortOf(Check.court(eight + "law pleads - 3;"), 0), 4000 + 0b11110000);
        Check.says(0, "of like ones the least set as bits");
        WebCourt sums = Check.court("knot k;plea a strong 1;plea b strong 2;plea c strong 3;plea d strong 4;"
                + "case x at k pleads a;law pleads = 5;");
        Check.due("2 + 3 ahead of 1 + 4", shortOf(sums, 0), 2006);
        WebCourt fewer = Check.court("knot k;plea a strong 2;plea b strong 2;plea c strong 4;case x at k pleads a;law pleads = 4;");
        Check.due("one ahead of two of a lesser set", shortOf(fewer, 0), 1004);
        Check.says(18, "NONE if by none, it is not HELD, or one can't be");
        WebCourt x = Check.court(THREE + "case w at b pleads r;");
        Check.due("which lets off", shortOf(x, 1), 1001);
        for (int what : NO_WHAT) {
            Check.due("shortest(1, " + what + ")", x.shortest(1, what), NONE);
        }
        for (int item : new int[] {-1, 4, 6, 32, MIN, MAX}) {
            Check.due("shortest(" + item + ", 0)", x.shortest(item, 0), NONE);
            Check.due("shortest(" + item + ", 1)", x.shortest(item, 1), NONE);
        }
        x.hear(0);
        x.hour(0);
        x.hear(2);
        Check.due("let off", x.shortest(0, 0), NONE);
        Check.due("kept", x.shortest(2, 1), NONE);
        Check.due("held", x.shortest(3, 1), 1);
    }

    private static void honest() {
        Check.says(0, "HONEST: the fewest of those that it was told to plead.");
        WebCourt x = Check.court("knot k;plea a strong 3;plea b strong 4;plea c strong 9;case x at k pleads a b;"
                + "case y at k pleads a;case z at k pleads c b a;law pleads - 5;");
        Check.due("both", x.honest(0, 0) * 10 + x.honest(0, 1), 23);
        Check.due("the one that does", x.honest(2, 0) * 10 + x.honest(2, 1), 14);
        x.plead(1, 2);
        Check.due("one taken up does not count", x.honest(1, 0), NONE);
        x.drop(0, 0);
        Check.due("one dropped does", x.honest(0, 1), 3);
        WebCourt none = Check.court(SIX + "case x at k pleads a b;law many < 3;");
        Check.due("not by none", none.honest(0, 0) * 10 + none.honest(0, 1), 11);
        Check.says(19, "HONEST what 0, 1: likewise.");
        for (int what : NO_WHAT) {
            Check.due("honest(0, " + what + ")", x.honest(0, what), NONE);
        }
        for (int item : NO_CASE) {
            Check.due("honest(" + item + ", 0)", x.honest(item, 0), NONE);
            Check.due("honest(" + item + ", 1)", x.honest(item, 1), NONE);
        }
        Check.due("let off", x.hear(2), 1);
        Check.due("not held", x.honest(2, 0), NONE);
        Check.due("not held: which", x.honest(2, 1), NONE);
    }

    private static void ways() {
        Check.says(0, "WAY to a KNOT: the fewest HOURS; of like ones the first (KNOT by KNOT).");
        WebCourt far = Check.court(CHAIN);
        Check.due("way(7) of eight in a chain", far.way(7), 7);
        Check.lie("way(7)", far, 0, 1, 2, 3, 4, 5, 6, 7);
        WebCourt x = Check.court("knot a;knot b;knot c;knot d;line d c;line d b;line c a;line b a;");
        Check.due("way(3)", x.way(3), 2);
        Check.lie("way(3): b ahead of c", x, 0, 1, 3);
        x.spin(1);
        Check.due("way(3) then", x.way(3), 2);
        Check.lie("way(3): over c", x, 0, 2, 3);
        WebCourt beside = Check.court("knot a;knot b;knot c;knot d;line b d;line a c;line c d;");
        Check.due("way(3), b being as near to d but not next to a", beside.way(3), 2);
        Check.lie("way(3) by c", beside, 0, 2, 3);
        WebCourt over = Check.court("knot a;knot b;knot c;line b a;line a c;bench c;");
        Check.due("way(1) over the first knot", over.way(1), 2);
        Check.lie("way(1) over the first knot", over, 2, 0, 1);
        Check.says(20, "how many HOURS (0: SHE is there); NONE if SHE can't come there, or there is none such.");
        Check.due("way(0)", x.way(0), 0);
        Check.lie("way(0)", x, 0);
        x.spin(0);
        Check.due("way(3), all being sticky", x.way(3), NONE);
        for (int knot : new int[] {-1, 4, 8, 32, MIN, MAX}) {
            Check.due("way(" + knot + ")", x.way(knot), NONE);
        }
        Check.due("without knots", Check.court("").way(0), NONE);
        Check.says(20, "KNOTS lie there then, from hers on (behind NONE: nothing).");
        for (int knot : new int[] {-1, 3, 4, MAX}) {
            x.way(1);
            Check.lie("way(1)", x, 0, 1);
            Check.due("way(" + knot + ")", x.way(knot), NONE);
            Check.lie("way(" + knot + ")", x);
        }
    }

    private static void rounds() {
        Check.says(0, "one now, if none was heard in this HOUR, another one behind the next HOUR, and so on");
        WebCourt x = Check.court("knot a;plea p strong 5;case x at a pleads p;case y at a pleads p;case z at a pleads p;");
        Check.due("three here", x.round(), 2);
        x.hear(2);
        Check.due("three here, one was heard", x.round(), 3);
        WebCourt one = Check.court("knot a;plea p strong 5;case x at a pleads p;");
        Check.due("one here", one.round(), 0);
        one.hear(0);
        Check.due("one here, one was heard", one.round(), 1);
        Check.says(0, "of like ones the first (CASE by CASE in the order in which they are heard)");
        WebCourt y = Check.court("knot m;knot a;knot b;line m a;line m b;plea p strong 5;case x at b pleads p;"
                + "case y at a pleads p;case z at m pleads p;");
        // 0 2 1, 1 2 0, 2 0 1 and 2 1 0 take 3 hours.
        Check.due("round()", y.round(), 3);
        Check.lie("round()", y, 0, 2, 1);
        Check.lie("three here, one was heard", laid(x), 0, 1, 2);
        Check.says(0, "the HOURS that go by from now to the last HEARING), what comes of it does not matter");
        WebCourt kept = Check.court(CHAIN + "case x at c pleads p;case y at a pleads p;law 0-1;");
        Check.due("both would be kept", kept.round(), 2);
        Check.lie("both would be kept", kept, 1, 0);
        WebCourt later = Check.court(CHAIN + "case x at c pleads p;case y at b pleads p;");
        for (int i = 0; i < 9; i++) {
            later.hour(0);
        }
        Check.due("from now, not from the first hour", later.round(), 2);
        WebCourt passed = Check.court("knot a;knot b;knot c;line a b;line b c;plea p strong 9;case x at b pleads p;case y at c pleads p;");
        passed.hour(1);
        passed.hear(0);
        passed.hour(0);
        Check.due("she passes one that is not held", passed.round(), 2);
        Check.lie("she passes one that is not held", passed, 1);
        Check.says(0, "nobody comes back, if not told otherwise");
        WebCourt gone = Check.court("knot a;knot b;line a b;plea p strong 9;case x at a pleads p;case y at b pleads p;back 100;");
        gone.hear(0);
        Check.due("x is let off", gone.round(), 1);
        Check.lie("x is let off", gone, 1);
        Check.due("term(30)", gone.term(30), 1);
        Check.says(21, "NONE if none is HELD, or SHE can't come to one.");
        WebCourt off = Check.court("knot a;plea p strong 9;case x at a pleads p;");
        off.hear(0);
        Check.due("none is held", off.round(), NONE);
        Check.due("no cases", Check.court("knot a;").round(), NONE);
        WebCourt far = Check.court("knot a;knot b;line a b sticky;plea p strong 5;case x at a pleads p;case y at b pleads p;");
        Check.due("one is too far", far.round(), NONE);
        far.spin(0);
        Check.due("it is no more", far.round(), 1);
        Check.says(21, "CASES lie there then, in order (behind NONE: nothing).");
        Check.lie("round()", far, 0, 1);
        far.spin(0);
        Check.due("too far again", far.round(), NONE);
        Check.lie("round() NONE", far);
        off.way(0);
        off.round();
        Check.lie("round() with none held", off);
        WebCourt six = Check.court(CHAIN + "case r at h pleads p;case s at h pleads p;case t at h pleads p;"
                + "case u at h pleads p;case v at a pleads p;case w at h pleads p;");
        Check.due("six: 7 hours and 4 more", six.round(), 11);
        Check.lie("six", six, 4, 0, 1, 2, 3, 5);
    }

    private static WebCourt laid(WebCourt x) {
        x.round();
        return x;
    }

    private static void terms() {
        Check.says(0, "the most CASES that SHE can hear so by then, n HOURS gone by at the latest");
        WebCourt x = Check.court(CHAIN + "case r at h pleads p;case s at h pleads p;case t at b pleads p;case u at a pleads p;");
        int[] due = {1, 2, 2, 2, 2, 2, 2, 3, 4, 4};
        for (int n = 0; n < due.length; n++) {
            Check.due("term(" + n + ")", x.term(n), due[n]);
        }
        x.hear(3);
        Check.due("term(0), one was heard", x.term(0), 0);
        Check.due("term(1), one was heard", x.term(1), 1);
        Check.due("term(8), one was heard", x.term(8), 3);
        Check.due("term(9), u first: behind 1, 2, 8 and 9", x.term(9), 4);
        WebCourt far = Check.court("knot a;knot b;line a b sticky;plea p strong 5;case x at a pleads p;case y at b pleads p;");
        Check.due("one is too far", far.term(30), 1);
        Check.says(22, "TERM (n 0 .. 30); NONE for another n.");
        for (int n : new int[] {-1, 31, 32, MIN, MAX}) {
            Check.due("term(" + n + ")", x.term(n), NONE);
        }
        Check.due("term(30)", x.term(30), 4);
        Check.due("term(30) without cases", Check.court("").term(30), 0);
        Check.due("term(31) without cases", Check.court("").term(31), NONE);
    }

    private static WebCourt under(String law) {
        return Check.court("knot k;plea p strong 3;case x at k pleads p;law " + law + ";");
    }

    private static void leaving() {
        Check.says(0, "STAYED and the hour going up, all else as it is");
        Check.due("stays", under("stays > 2").leave(0), 4);
        Check.due("hour", under("hour > 2").leave(0), 4);
        Check.due("both", under("stays + hour = 6").leave(0), 4);
        Check.due("they go up together", under("stays = hour and hour = 5").leave(0), 6);
        Check.due("before stays", under("before").leave(0), NONE);
        WebCourt later = under("stays*10 + hour > 34");
        later.hear(0);
        for (int i = 0; i < 5; i++) {
            later.hour(0);
        }
        // 15, 26, 37.
        Check.due("from stayed 1 and hour 5 on", later.leave(0), 3);
        Check.says(0, "it is KEPT ahead of that: never; 30 at most");
        Check.due("kept at the second", under("(hour > 1) - (hour = 1)").leave(0), NONE);
        Check.due("kept at the first", under("hour - 1").leave(0), NONE);
        Check.due("kept behind it", under("(hour = 1) - (hour > 1)").leave(0), 2);
        Check.due("by 30", under("hour > 28").leave(0), 30);
        Check.due("by 31", under("hour > 29").leave(0), NONE);
        WebCourt last = under("stays > 98");
        for (int i = 0; i < 97; i++) {
            last.hear(0);
            last.hour(0);
        }
        Check.due("97, 98 and 99", last.leave(0), 3);
        WebCourt most = under("stays > 99");
        for (int i = 0; i < 99; i++) {
            most.hear(0);
            most.hour(0);
        }
        Check.due("stayed 99 is the most", most.leave(0), NONE);
        Check.says(23, "LEAVE (1 .. 30); NONE if never, it is not HELD, or there is none such.");
        Check.due("at once", under("1").leave(0), 1);
        Check.due("never", under("0").leave(0), NONE);
        WebCourt x = Check.court(THREE + "law 1;");
        for (int item : NO_CASE) {
            Check.due("leave(" + item + ")", x.leave(item), NONE);
        }
        x.hear(0);
        Check.due("let off", x.leave(0), NONE);
        Check.due("another one, elsewhere or not", x.leave(1), 1);
        WebCourt by = Check.court(THREE + "law pleads = 5 and stays = 2;");
        Check.due("by its own pleas", by.leave(1), 3);
        Check.due("by pleas that do not", by.leave(2), NONE);
        WebCourt kept = under("(hour > 0) - (hour = 0)");
        kept.hear(0);
        kept.hour(0);
        Check.due("kept", kept.leave(0), NONE);
        kept.grab(0);
        Check.due("caught", kept.leave(0), 1);
    }

    private static void contraries() {
        String twos = "knot a;knot b;plea p strong 3;plea q strong 3;case u at a pleads p;case v at a pleads q;"
                + "case w at b pleads q;case x at a pleads p q;case y at b pleads p;";
        Check.says(0, "CONTRARY: two HELD CASES with the same PLEAS and unlike VERDICTS (LET OFF, STAYS, KEPT)");
        // At a kin is 2, at b 1.
        Check.due("2 and 1 are alike", Check.court(twos + "law kin;").contrary(0), NONE);
        Check.due("-1 and -2 are alike", Check.court(twos + "law kin - 3;").contrary(1), NONE);
        int[] unlike = {1, 2};
        for (int less : unlike) {
            WebCourt x = Check.court(twos + "law kin - " + less + ";");
            Check.due("the first, less " + less, x.contrary(0), 0);
            Check.due("the other, less " + less, x.contrary(1), 4);
        }
        WebCourt strong = Check.court("knot a;plea p strong 9;plea q strong 1;case u at a pleads p;case v at a pleads q;");
        Check.due("other pleas", strong.contrary(0), NONE);
        strong.plead(0, 1);
        strong.plead(1, 0);
        Check.due("the same pleas and verdicts", strong.contrary(0), NONE);
        strong.hear(0);
        strong.grab(0);
        Check.due("8 and 10 less 5 less 2", strong.contrary(0), NONE);
        Check.says(0, "of like twos the first (the lesser number, then the other one)");
        WebCourt first = Check.court("knot a;knot b;plea p strong 3;case u at a pleads p;case v at a pleads p;"
                + "case w at b pleads p;case x at a pleads p;case y at b pleads p;law kin - 1;");
        Check.due("0 and 2", first.contrary(0) * 10 + first.contrary(1), 2);
        first.hear(0);
        // Kin is 1 at each knot: all stay.
        Check.due("0 is let off", first.contrary(0), NONE);
        WebCourt next = Check.court("knot a;knot b;knot c;plea p strong 3;case u at a pleads p;case v at c pleads p;"
                + "case w at b pleads p;case x at b pleads p;law kin;");
        Check.due("0 and 2, 0 and 1 being alike", next.contrary(0) * 10 + next.contrary(1), 2);
        WebCourt close = Check.court("knot a;knot b;plea p strong 3;case u at a pleads p;case v at b pleads p;"
                + "case w at b pleads p;law kin;");
        Check.due("0 and 1", close.contrary(0) * 10 + close.contrary(1), 1);
        WebCourt behind = Check.court("knot a;knot b;plea p strong 3;plea q strong 3;case u at a pleads p;case v at a pleads q;"
                + "case w at b pleads q;law kin;");
        Check.due("1 and 2", behind.contrary(0) * 10 + behind.contrary(1), 12);
        Check.says(24, "NONE if there are none, or for another what");
        WebCourt x = Check.court(twos + "law kin - 1;");
        for (int what : NO_WHAT) {
            Check.due("contrary(" + what + ")", x.contrary(what), NONE);
        }
        Check.due("there are none", first.contrary(1), NONE);
        Check.due("no cases", Check.court("").contrary(0), NONE);
    }

    private static void hopeless() {
        Check.says(0, "HOPELESS: HELD CASES that by no PLEAS (4 at most) would be LET OFF now.");
        String two = "knot l;case x at k pleads a;case y at l pleads b;case z at l pleads a b c d;";
        Check.due("four do", Check.court(SIX + two + "law pleads - 7;").hopeless(), 0);
        Check.due("five would do", Check.court(SIX + two + "law pleads - 9;").hopeless(), 0b111);
        Check.due("it stays by all", Check.court(SIX + two + "law 0;").hopeless(), 0b111);
        Check.due("by kin", Check.court(SIX + two + "law pleads - 7 - kin;").hopeless(), 0b110);
        Check.due("by none alone", Check.court(SIX + two + "law many = 0;").hopeless(), 0b111);
        Check.due("no more than there are",
                Check.court("knot k;plea a strong 1;case x at k pleads a;law many = 2;").hopeless(), 1);
        Check.due("by the first alone",
                Check.court("knot k;plea a strong 9;plea b strong 1;case x at k pleads b;law pleads = 9;").hopeless(), 0);
        Check.says(25, "HOPELESS, as bits.");
        WebCourt x = Check.court(SIX + two + "law 0 - 1;");
        x.hear(0);
        Check.due("one is kept", x.hopeless(), 0b110);
        Check.due("no cases", Check.court("").hopeless(), 0);
    }

    private static void rivals() {
        Check.says(0, "the PLEA that both plead counts for neither (many 0, pleads 0 then)");
        String two = "knot k;plea a strong 4;plea b strong 7;case u at k pleads a b;case v at k pleads a;";
        // Each has 7 or 4, and -5 with the same one.
        WebCourt x = Check.court(two);
        Check.due("rivals(0, 1)", x.rivals(0, 1), 2);
        Check.due("many 0 is best", Check.court(two + "law 0 - many;").rivals(0, 1), 2);
        Check.due("pleads 0 is best", Check.court(two + "law 0 - pleads;").rivals(1, 0), 2);
        Check.due("only many = 1 counts", Check.court(two + "law many = 1;").rivals(1, 0), 2);
        Check.due("many 2 is never", Check.court(two + "law many = 2;").rivals(1, 0), 4);
        Check.says(0, "at RESTS neither, the other one's staying so, would have a greater one by another PLEA");
        // u, with kin, would have the lesser, w the greater; like ones are no greater.
        String mixed = "knot k;knot l;plea a strong 4;plea b strong 7;plea c strong 7;case u at k pleads a;case v at k pleads a;"
                + "case w at l pleads a;law (many = 1) * (9 + pleads - pleads * 2 * kin);";
        WebCourt rests = Check.court(mixed);
        // u: a 5, b 2, c 2; w: a 13, b 16, c 16; 0 for the same one.
        Check.due("u a and w b, u a and w c", rests.rivals(0, 2), 2);
        Check.lie("u a and w b", rests, 0, 1);
        Check.due("turned", rests.rivals(2, 0), 2);
        Check.lie("turned", rests, 1, 0);
        Check.says(26, "NONE if both are one, one is not HELD, there are no PLEAS, or one can't be.");
        WebCourt y = Check.court(THREE);
        Check.due("rivals(1, 1)", y.rivals(1, 1), NONE);
        for (int item : NO_CASE) {
            Check.due("rivals(0, " + item + ")", y.rivals(0, item), NONE);
            Check.due("rivals(" + item + ", 0)", y.rivals(item, 0), NONE);
            Check.due("rivals(" + item + ", " + item + ")", y.rivals(item, item), NONE);
        }
        y.hear(0);
        Check.due("rivals(0, 1), let off", y.rivals(0, 1), NONE);
        Check.due("rivals(1, 0), let off", y.rivals(1, 0), NONE);
        y.hour(0);
        y.hear(2);
        Check.due("rivals(1, 2), kept", y.rivals(1, 2), NONE);
        Check.due("no pleas", Check.court("knot k;").rivals(0, 1), NONE);
        Check.says(26, "the first one's, the other one's; of like ones the least numbers; behind 0, NONE: nothing");
        Check.due("rivals(0, 1)", x.rivals(0, 1), 2);
        Check.lie("rivals(0, 1)", x, 0, 1);
        WebCourt all = Check.court(two + "law 1;");
        Check.due("all rest", all.rivals(1, 0), 4);
        Check.lie("all rest", all, 0, 0);
        all.rivals(0, 0);
        Check.lie("NONE", all);
        WebCourt one = Check.court("knot k;plea a strong 9;case u at k pleads a;case v at k pleads a;");
        Check.due("one plea", one.rivals(0, 1), 1);
        Check.lie("one plea", one, 0, 0);
        WebCourt best = Check.court("knot k;plea a strong 1;plea b strong 2;plea c strong 3;case u at k pleads a;case v at k pleads a;");
        Check.due("the two best", best.rivals(0, 1), 2);
        Check.lie("the two best", best, 1, 2);
        WebCourt eight = Check.court("knot k;plea a strong 1;plea b strong 2;plea c strong 3;plea d strong 4;plea e strong 5;"
                + "plea f strong 6;plea g strong 7;plea h strong 8;case u at k pleads a;case v at k pleads a;");
        Check.due("eight pleas", eight.rivals(0, 1), 2);
        Check.lie("eight pleas", eight, 6, 7);
        // u, alone at its knot, wants what v has; v does not.
        WebCourt none = Check.court("knot k;knot l;plea a strong 4;plea b strong 4;case u at k pleads a;case v at l pleads a;"
                + "case w at l pleads a;law (kin = 0) = (many = 0);");
        none.way(0);
        Check.due("no rest", none.rivals(0, 1), 0);
        Check.lie("no rest", none);
        WebCourt other = Check.court("knot k;knot l;plea a strong 4;plea b strong 7;case u at k pleads a;case v at l pleads a;"
                + "case w at l pleads a;law pleads * (kin = 0);");
        Check.due("only u minds", other.rivals(0, 1), 2);
        Check.lie("only u minds", other, 0, 1);
        Check.due("only u minds, turned", other.rivals(1, 0), 2);
        Check.lie("only u minds, turned", other, 0, 1);
    }

    private static void bridges() {
        Check.says(0, "BRIDGE: the LINE that is not sticky without which SHE could come to the fewest KNOTS from hers; "
                + "of like ones the first.");
        WebCourt x = Check.court(CHAIN + "bench d;");
        Check.due("without d e she comes to a b c d", x.bridge(0) * 10 + x.bridge(1), 34);
        x.spin(3);
        Check.due("without c d, d e being sticky, to d alone", x.bridge(0) * 10 + x.bridge(1), 21);
        WebCourt ring = Check.court("knot a;knot b;knot c;line a b;line b c;line c a;");
        Check.due("bridge(0) of a ring", ring.bridge(0) * 10 + ring.bridge(1), 3);
        WebCourt great = Check.court(CHAIN + "line h a;");
        Check.due("bridge(0) of a ring of eight", great.bridge(0) * 10 + great.bridge(1), 8);
        WebCourt sticky = Check.court("knot a;knot b;knot c;knot d;knot e;line a d sticky;line a e sticky;line a b;line b c;line c a;");
        Check.due("sticky ones are none", sticky.bridge(0) * 10 + sticky.bridge(1), 23);
        Check.says(27, "how many KNOTS SHE could come to then (hers, too)");
        WebCourt two = Check.court("knot a;knot b;line a b;");
        Check.due("bridge(1): hers", two.bridge(1), 1);
        Check.says(27, "NONE without such LINES, or for another what");
        for (int what : NO_WHAT) {
            Check.due("bridge(" + what + ")", two.bridge(what), NONE);
        }
        two.spin(0);
        Check.due("bridge(0), the line being sticky", two.bridge(0), NONE);
        Check.due("bridge(1), the line being sticky", two.bridge(1), NONE);
        Check.due("no lines", Check.court("knot a;").bridge(0), NONE);
        Check.due("no knots", Check.court("").bridge(1), NONE);
    }

    private static void forbidding() {
        Check.says(0, "FORBID: the PLEA without which (taken from all) the fewest HELD CASES would be LET OFF now; "
                + "of like ones the first.");
        WebCourt x = Check.court(THREE + "case w at a pleads p r;");
        Check.due("p", x.forbid(0) * 10 + x.forbid(1), 0);
        WebCourt like = Check.court("knot a;plea o strong 1;plea p strong 9;plea q strong 9;case x at a pleads p;case y at a pleads q;");
        Check.due("p, the first of two", like.forbid(0) * 10 + like.forbid(1), 11);
        WebCourt last = Check.court("knot a;plea o strong 1;plea p strong 2;plea q strong 9;case x at a pleads o p q;case y at a pleads q;");
        Check.due("q, none is let off then", last.forbid(0) * 10 + last.forbid(1), 20);
        Check.due("none left, many 0",
                Check.court("knot a;plea p strong 9;case x at a pleads p;law many = 0;").forbid(1), 1);
        WebCourt six = Check.court("knot a;plea p strong 9;case r at a pleads p;case s at a pleads p;case t at a pleads p;"
                + "case u at a pleads p;case v at a pleads p;case w at a pleads p;law 1;");
        Check.due("six without any", six.forbid(0) * 10 + six.forbid(1), 6);
        Check.says(28, "NONE without PLEAS, or for another what");
        for (int what : NO_WHAT) {
            Check.due("forbid(" + what + ")", x.forbid(what), NONE);
        }
        Check.due("no pleas: which", Check.court("knot a;").forbid(0), NONE);
        Check.due("no pleas: how many", Check.court("knot a;").forbid(1), NONE);
        Check.due("no cases", Check.court("plea p strong 1;").forbid(0), 0);
        Check.due("no cases: how many", Check.court("plea p strong 1;").forbid(1), 0);
        x.hear(0);
        x.hour(0);
        x.hear(3);
        Check.due("those held alone", x.forbid(1), 0);
    }

    private static void swapping() {
        String two = "knot k;knot l;plea a strong 9;plea b strong 6;case x at k pleads b;case y at k pleads b;"
                + "case z at l pleads a;law pleads - 5 - kin * 3;";
        Check.says(29, "if these are more than as it is");
        WebCourt x = Check.court(two);
        // z alone as it is; x and z, or y and z: two.
        Check.due("swap(2)", x.swap(2), 2);
        WebCourt alike = Check.court(THREE);
        Check.due("no more by any: which", alike.swap(0), NONE);
        Check.due("no more by any: the other", alike.swap(1), NONE);
        Check.due("no more by any: how many", alike.swap(2), NONE);
        Check.says(29, "of like ones the first (the lesser number, then the other one)");
        Check.due("swap(0)", x.swap(0), 0);
        Check.due("swap(1)", x.swap(1), 2);
        // x, alone, needs 6, y and z need 10 and stay with 9; as it is x is let off, z stays.
        WebCourt three = Check.court("knot k;knot l;plea a strong 10;plea b strong 6;plea c strong 9;case x at k pleads a;"
                + "case y at l pleads b;case z at l pleads c;law pleads - 5 - kin * 4;");
        Check.due("x and y ahead of x and z", three.swap(0) * 100 + three.swap(1) * 10 + three.swap(2), 12);
        WebCourt turned = Check.court("knot k;knot l;plea a strong 10;plea b strong 6;plea c strong 5;case w at k pleads c;"
                + "case y at l pleads b;case x at k pleads a;law pleads - 5 - kin * 4;");
        // w and x need 10, y needs 6; as it is x and y are let off, and no more by any exchange.
        Check.due("no more than two", turned.swap(2), NONE);
        Check.says(29, "NONE if there are none, or for another what");
        for (int what : new int[] {-1, 3, 4, MIN, MAX}) {
            Check.due("swap(" + what + ")", x.swap(what), NONE);
        }
        Check.due("no cases", Check.court("").swap(0), NONE);
        Check.due("one case", Check.court("knot k;plea a strong 9;case x at k pleads a;").swap(0), NONE);
        x.hear(0);
        // x is kept, kin is 0 at k: y and z are let off as it is.
        Check.due("x is not held", x.swap(0), NONE);
        WebCourt kept = Check.court("knot k;plea a strong 1;plea b strong 2;case x at k pleads a;case y at k pleads b;");
        kept.hear(0);
        Check.due("one is kept, none is let off", kept.swap(0), NONE);
        WebCourt off = Check.court("knot k;plea a strong 1;plea b strong 9;case x at k pleads a;case y at k pleads b;");
        off.hear(1);
        Check.due("one that is let off has the better plea", off.swap(0), NONE);
    }

    private static void advising() {
        Check.says(30, "The PLEA that a HELD CASE of fewer than 4 has not");
        WebCourt x = Check.court(SIX + "case x at k pleads a b c;case y at k pleads a b c d;case z at k pleads f;");
        Check.due("of three", x.advice(0, 0), 3);
        Check.due("of four", x.advice(1, 0), NO_VERDICT);
        Check.due("of four: verdict", x.advice(1, 1), NO_VERDICT);
        Check.due("of one", x.advice(2, 0), 0);
        Check.says(30, "its VERDICT were greatest; of like ones the first");
        WebCourt y = Check.court("knot k;plea a strong 4;plea b strong 7;plea c strong 7;case x at k pleads a;");
        Check.due("the first of two", y.advice(0, 0) * 10 + y.advice(0, 1), 16);
        WebCourt last = Check.court("knot k;plea a strong 4;plea b strong 1;plea c strong 9;case x at k pleads a;");
        Check.due("the last one", last.advice(0, 0) * 10 + last.advice(0, 1), 28);
        WebCourt worse = Check.court("knot k;plea a strong 4;plea b strong 7;plea c strong 2;case w at k pleads a;"
                + "case x at k pleads b;law 0 - many * 10 - pleads;");
        Check.due("each is worse than none", worse.advice(1, 0), 2);
        Check.due("each is worse than none: verdict", worse.advice(1, 1), -29);
        WebCourt below = Check.court("knot k;plea a strong 4;plea b strong 7;plea c strong 6;case x at k pleads a;law 0 - pleads;");
        Check.due("below 0", below.advice(0, 0), 2);
        Check.due("below 0: verdict", below.advice(0, 1), -10);
        WebCourt least = Check.court("knot k;plea a strong 4;plea b strong 7;case x at k pleads a;law 4096*8*4096*8*2;");
        Check.due("the least int", least.advice(0, 0), 1);
        Check.due("the least int: verdict", least.advice(0, 1), MIN);
        Check.says(30, "-1000000000 if there is none, it is not HELD, or one can't be");
        Check.due("it has all", Check.court("knot k;plea a strong 9;case x at k pleads a;").advice(0, 0), NO_VERDICT);
        for (int what : NO_WHAT) {
            Check.due("advice(0, " + what + ")", x.advice(0, what), NO_VERDICT);
        }
        for (int item : NO_CASE) {
            Check.due("advice(" + item + ", 0)", x.advice(item, 0), NO_VERDICT);
            Check.due("advice(" + item + ", 1)", x.advice(item, 1), NO_VERDICT);
        }
        x.hear(0);
        Check.due("not held", x.advice(0, 0), NO_VERDICT);
        Check.due("not held: verdict", x.advice(0, 1), NO_VERDICT);
    }

    private static void freeAndReach() {
        Check.says(31, "HELD CASES that would be LET OFF now, as bits.");
        WebCourt x = Check.court(THREE + "case w at b pleads p q r;");
        Check.due("above 0 alone", x.free(), 0b1001);
        x.hear(0);
        Check.due("held alone", x.free(), 0b1000);
        Check.due("no cases", Check.court("").free(), 0);
        Check.says(32, "KNOTS SHE can come to (hers, too), as bits.");
        Check.due("all eight of a chain", Check.court(CHAIN).reach(), 255);
        Check.due("all eight from the last one", Check.court(CHAIN + "bench h;").reach(), 255);
        Check.due("hers alone", Check.court("knot a;knot b;line a b sticky;bench b;").reach(), 0b10);
        Check.due("no knots", Check.court("").reach(), 0);
    }

    private static void fashionAndLikeliest() {
        Check.says(33, "of like ones the first; NONE without PLEAS");
        WebCourt x = Check.court(THREE);
        Check.due("one each", x.fashion(), 0);
        x.hear(0);
        Check.due("p is held by none", x.fashion(), 1);
        Check.due("no cases", Check.court("plea p strong 1;plea q strong 2;").fashion(), 0);
        Check.due("no pleas", Check.court("knot a;").fashion(), NONE);
        Check.says(34, "of like ones the first; NONE if none is");
        WebCourt two = Check.court("knot a;plea p strong 1;plea q strong 3;case x at a pleads p;case y at a pleads q;case z at a pleads q;");
        Check.due("y, below 0 as it is", two.likeliest(), 1);
        Check.due("the least int", under("4096*8*4096*8*2").likeliest(), 0);
        Check.due("no cases", Check.court("knot a;").likeliest(), NONE);
        WebCourt off = under("1");
        Check.due("held", off.likeliest(), 0);
        off.hear(0);
        Check.due("none is held", off.likeliest(), NONE);
    }

    private static void loopholes() {
        Check.says(35, "The least hour (0 .. 99) at which a CASE with its PLEAS would be LET OFF (all else as it is)");
        Check.due("0", under("1").loophole(0), 0);
        Check.due("99", under("hour > 98").loophole(0), 99);
        Check.due("100", under("hour > 99").loophole(0), NONE);
        Check.due("kept ahead of it", under("hour - 7").loophole(0), 8);
        Check.due("stayed is as it is", under("stays = 0 and hour = 4").loophole(0), 4);
        WebCourt gone = under("hour < 2");
        gone.hour(0);
        gone.hour(0);
        gone.hour(0);
        Check.due("an hour gone by", gone.loophole(0), 0);
        Check.says(35, "NONE if at none of these, it is not HELD, or there is none such");
        Check.due("at none", under("0").loophole(0), NONE);
        WebCourt x = Check.court(THREE + "law 1;");
        for (int item : NO_CASE) {
            Check.due("loophole(" + item + ")", x.loophole(item), NONE);
        }
        x.hear(0);
        Check.due("not held", x.loophole(0), NONE);
        Check.due("held", x.loophole(1), 0);
        WebCourt by = Check.court(THREE + "law pleads = 5 and hour = 6;");
        Check.due("by its own pleas", by.loophole(1), 6);
        Check.due("by pleas that do not", by.loophole(2), NONE);
    }

    private static void precedents() {
        Check.says(36, "if all had been LET OFF n times BEFORE (0 .. 99); NONE for another n");
        WebCourt x = Check.court("knot k;plea a strong 6;plea b strong 8;case x at k pleads a;case y at k pleads b;case z at k pleads a b;");
        int[] due = {3, 2, 1, 1, 1, 0};
        for (int n = 0; n < due.length; n++) {
            Check.due("precedent(" + n + ")", x.precedent(n), due[n]);
        }
        Check.due("99 times", under("before > 98").precedent(99), 1);
        Check.due("98 times", under("before > 98").precedent(98), 0);
        for (int n : new int[] {-1, 100, MIN, MAX}) {
            Check.due("precedent(" + n + ")", x.precedent(n), NONE);
        }
        Check.due("no cases", Check.court("").precedent(99), 0);
        x.hear(2);
        Check.due("those held alone", x.precedent(0), 2);
    }

    private static void odds() {
        Check.says(0, "that it does not come back in n HOURS, whatever the SEED is");
        int[][] due = {{30, 1, 7, 10}, {30, 2, 49, 100}, {30, 3, 343, 1000}, {30, 4, 2401, 10000}, {1, 4, 96059601, 100000000},
            {99, 4, 1, 100000000}, {50, 4, 1, 16}, {20, 3, 64, 125}};
        for (int[] row : due) {
            WebCourt x = Check.court("draw 5;back " + row[0] + ";");
            Check.due("odds(" + row[1] + ", 0) of " + row[0], x.odds(row[1], 0), row[2]);
            Check.due("odds(" + row[1] + ", 1) of " + row[0], x.odds(row[1], 1), row[3]);
        }
        Check.says(37, "ODDS (n 0 .. 4) the upper part (0), the lower part (1), in lowest terms (0 of 1); NONE if one can't be.");
        for (int n = 0; n <= 4; n++) {
            WebCourt never = Check.court("back 0;");
            WebCourt always = Check.court("back 100;");
            Check.due("odds(" + n + ", 0) of 0", never.odds(n, 0), 1);
            Check.due("odds(" + n + ", 1) of 0", never.odds(n, 1), 1);
            Check.due("odds(" + n + ", 0) of 100", always.odds(n, 0), n == 0 ? 1 : 0);
            Check.due("odds(" + n + ", 1) of 100", always.odds(n, 1), 1);
        }
        WebCourt x = Check.court("back 33;");
        for (int wrong : new int[] {-1, 5, MIN, MAX}) {
            Check.due("odds(" + wrong + ", 0)", x.odds(wrong, 0), NONE);
            Check.due("odds(" + wrong + ", 1)", x.odds(wrong, 1), NONE);
        }
        for (int part : NO_WHAT) {
            Check.due("odds(1, " + part + ")", x.odds(1, part), NONE);
        }
    }

    private static void lying() {
        Check.says(38, "The i-th number of what lies there; NONE if there is none such.");
        WebCourt x = Check.court(CHAIN + "bench h;");
        x.way(0);
        for (int i = 0; i < 8; i++) {
            Check.due("lies(" + i + ")", x.lies(i), 7 - i);
        }
        for (int i : new int[] {-1, 8, 9, 32, MIN, MAX}) {
            Check.due("lies(" + i + ")", x.lies(i), NONE);
        }
        x.way(6);
        Check.due("lies(2) of two", x.lies(2), NONE);
        x.way(-1);
        Check.due("lies(0) of none", x.lies(0), NONE);
    }
}
