/** The sentences of part 4, and of promises 39 to 44, that name a boundary: each by itself. */
final class EdgeHearsay {
    private static final int NONE = WebCourt.NONE;
    private static final int MIN = Integer.MIN_VALUE;
    private static final int MAX = Integer.MAX_VALUE;
    private static final int[] NO_WHAT = {-1, 2, 3, MIN, MAX};
    // The verdicts, the last plea being s: -2, s - 5, s - 2.
    private static final String WEB = "knot k;plea a strong 3;plea b strong 9;case x at k pleads a;case y at k pleads b;"
            + "case z at k pleads a b;";

    private EdgeHearsay() {
    }

    static void run() {
        terms();
        heard();
        untell();
        later();
        fits();
        sure();
        ask();
    }

    private static void terms() {
        Check.says(0, "HEARD, 30 at most");
        WebCourt x = Check.court(WEB);
        for (int i = 0; i < 30; i++) {
            Check.due("heard " + i, x.heard(0, -2, true), i);
        }
        Check.due("heard 30", x.heard(0, -2, true), NONE);
        Check.due("what is heard", x.about(10), 30);
        Check.says(0, "is TOLD at a TIME (0 at first, goes on), UNTOLD at a later one or the same");
        WebCourt y = Check.court(WEB);
        Check.due("the time", y.about(11), 0);
        y.heard(1, 1, true);
        y.later(2);
        y.heard(1, 2, true);
        Check.due("untold at the same time", y.untell(1), true);
        y.later(2);
        Check.due("untold at a later one", y.untell(0), true);
        int[] fits = {25, 25, 25, 25, 31};
        for (int k = 0; k < fits.length; k++) {
            Check.due("fits(" + k + ")", y.fits(k), fits[k]);
        }
        Check.says(0, "of the web as it was told (all HELD, hour 0, BEFORE 0, STAYED 0)");
        WebCourt z = Check.court("knot k;plea a strong 3;plea b strong 9;case x at k pleads b;case y at k pleads a;"
                + "case z at k pleads a;law pleads - 9 + kin * 100 - hour * 1000 - before * 5000 - stays * 9000 - many;");
        // As told x is s + 190.
        z.heard(0, 200, true);
        Check.due("fits(0)", z.fits(0), 21);
        z.hear(0);
        z.hour(0);
        z.hear(1);
        z.hour(0);
        z.plead(0, 0);
        z.drop(0, 1);
        Check.due("fits(0) whatever was done", z.fits(0), 21);
        Check.says(0, "but for how strong the last PLEA is, which is not known");
        WebCourt only = Check.court("knot k;plea a strong 7;case x at k pleads a;law pleads;");
        Check.due("the only plea is the last", only.fits(0), 31);
        WebCourt first = Check.court("knot k;plea a strong 7;plea b strong 1;case x at k pleads a;law pleads;");
        first.heard(0, 7, true);
        Check.due("the first is known", first.fits(0), 31);
        first.heard(0, 8, true);
        Check.due("it is not 8", first.fits(0), 0);
        WebCourt both = Check.court(WEB);
        both.heard(2, 10, true);
        Check.due("3 + s - 5 is 10 at least", both.fits(0) * 100 + both.sure(0, 0), 1912);
        WebCourt kin = Check.court("knot k;knot l;plea a strong 3;plea b strong 9;case x at k pleads b;case y at k pleads a;"
                + "case z at l pleads b;law pleads + kin * 100;");
        kin.heard(1, 103, true);
        kin.heard(0, 110, true);
        kin.heard(2, 20, false);
        Check.due("kin of each", kin.fits(0) * 100 + kin.sure(0, 0), 1010);
        Check.says(0, "that the VERDICT of a CASE was so much at least, or was not");
        for (int bound = 0; bound <= 31; bound++) {
            WebCourt least = Check.court("knot k;plea a strong 7;case x at k pleads a;law pleads;");
            least.heard(0, bound, true);
            Check.due("at least " + bound, least.fits(0), 31 - bound);
            WebCourt not = Check.court("knot k;plea a strong 7;case x at k pleads a;law pleads;");
            not.heard(0, bound, false);
            Check.due("not " + bound, not.fits(0), bound);
        }
        Check.says(0, "As known at k that counts that was TOLD at k or before, not UNTOLD at k or before.");
        WebCourt known = Check.court(WEB);
        known.later(5);
        known.heard(1, 1, true);
        known.later(3);
        known.untell(0);
        int[] due = {31, 31, 31, 31, 31, 25, 25, 25, 31, 31};
        for (int k = 0; k < due.length; k++) {
            Check.due("fits(" + k + ")", known.fits(k), due[k]);
        }
        Check.says(0, "FITS: how strong (0 .. 30) by which all that counts is so.");
        WebCourt all = Check.court("knot k;plea a strong 20;case x at k pleads a;law pleads;");
        Check.due("the least", all.sure(0, 0), 0);
        Check.due("the greatest", all.sure(1, 0), 30);
        all.heard(0, 30, true);
        Check.due("30 alone", all.fits(0) * 100 + all.sure(0, 0), 130);
        all.heard(0, 31, true);
        Check.due("31 is none", all.fits(0), 0);
        WebCourt zero = Check.court("knot k;plea a strong 20;case x at k pleads a;law pleads;");
        zero.heard(0, 1, false);
        Check.due("0 alone", zero.fits(0) * 100 + zero.sure(1, 0), 100);
        Check.says(0, "would leave the fewest of these at the most; of like ones the first");
        WebCourt ask = Check.court(WEB);
        // Of 31, y leaves 5, 1 or 25, z 2, 1 or 28, x all.
        Check.due("ask(0, 0)", ask.ask(0, 0), 1);
        Check.due("ask(1, 0)", ask.ask(1, 0), 25);
        ask.heard(1, 1, true);
        Check.due("all are let off or kept alike", ask.ask(0, 0), 0);
        Check.due("all are left", ask.ask(1, 0), 25);
        WebCourt little = Check.court("knot k;plea a strong 5;plea b strong 9;case x at k pleads a;case y at k pleads b;law pleads = 0;");
        Check.due("30 are fewer than 31: the case", little.ask(0, 0), 1);
        Check.due("30 are fewer than 31", little.ask(1, 0), 30);
        WebCourt six = Check.court("knot k;plea a strong 5;plea b strong 9;case s at k pleads a;case t at k pleads a;"
                + "case u at k pleads a;case v at k pleads a;case w at k pleads a;case x at k pleads b;law pleads - 15;");
        Check.due("the last of six", six.ask(0, 0), 5);
        Check.due("the last of six: left", six.ask(1, 0), 15);
        six.heard(5, 1, true);
        Check.due("fits by the last of six", six.fits(0), 15);
        WebCourt stays = Check.court("knot k;plea a strong 20;case x at k pleads a;law pleads/10 - 1;");
        // 0 .. 9 is kept, 10 .. 19 stays, 20 .. 30 is let off.
        Check.due("three ways", stays.ask(1, 0), 11);
        String[] laws = {"1", "0", "0-1", "pleads > 20", "pleads = 0", "0-(pleads > 9)", "(pleads > 7)-(pleads < 5)",
            "0-(pleads > 15)*pleads", "(pleads > 15)*pleads"};
        int[] left = {31, 31, 31, 21, 30, 21, 23, 16, 16};
        for (int i = 0; i < laws.length; i++) {
            WebCourt one = Check.court("knot k;plea a strong 20;case x at k pleads a;law " + laws[i] + ";");
            Check.due("left by " + laws[i], one.ask(1, 0), left[i]);
            Check.due("asked by " + laws[i], one.ask(0, 0), 0);
        }
    }

    private static void heard() {
        Check.says(39, "A HEARD (a VERDICT -9,999 .. 9,999): its number");
        WebCourt x = Check.court(WEB);
        Check.due("heard(0, -9999, true)", x.heard(0, -9999, true), 0);
        Check.due("heard(0, 9999, false)", x.heard(0, 9999, false), 1);
        Check.due("fits(0)", x.fits(0), 31);
        Check.says(39, "NONE, doing nothing, if one can't be, there are 30, or no PLEAS");
        for (int verdict : new int[] {-10000, 10000, MIN, MAX}) {
            Check.due("heard(0, " + verdict + ", true)", x.heard(0, verdict, true), NONE);
            Check.due("heard(0, " + verdict + ", false)", x.heard(0, verdict, false), NONE);
        }
        for (int item : new int[] {-1, 3, 6, 32, MIN, MAX}) {
            Check.due("heard(" + item + ", 0, true)", x.heard(item, 0, true), NONE);
        }
        Check.due("what is heard", x.about(10), 2);
        Check.due("fits(0) still", x.fits(0), 31);
        for (int i = 2; i < 30; i++) {
            Check.due("heard " + i, x.heard(1, 1, true), i);
        }
        Check.due("there are 30", x.heard(1, 2, true), NONE);
        x.untell(29);
        Check.due("there are 30, one being untold", x.heard(1, 2, true), NONE);
        Check.due("what is heard then", x.about(10), 30);
        Check.due("no pleas", Check.court("knot k;").heard(0, 0, true), NONE);
        WebCourt off = Check.court(WEB + "law 1;");
        off.hear(0);
        Check.due("one that is let off may be told of", off.heard(0, 1, true), 0);
    }

    private static void untell() {
        Check.says(40, "It is UNTOLD: true; false if it is so already, or there is none such.");
        WebCourt x = Check.court(WEB);
        Check.due("untell(0) of none", x.untell(0), false);
        x.heard(1, 1, true);
        for (int heard : new int[] {-1, 1, 30, 32, MIN, MAX}) {
            Check.due("untell(" + heard + ")", x.untell(heard), false);
        }
        Check.due("it counts on", x.fits(0), 25);
        Check.due("untell(0)", x.untell(0), true);
        Check.due("it counts no more", x.fits(0), 31);
        x.later(4);
        Check.due("untell(0) again", x.untell(0), false);
        Check.due("it stays untold at 0", x.fits(1), 31);
        for (int i = 1; i < 30; i++) {
            x.heard(1, 1, true);
        }
        Check.due("untell(29), the last of 30", x.untell(29), true);
        Check.due("untell(30)", x.untell(30), false);
    }

    private static void later() {
        Check.says(41, "So much later (0 .. 1000): the TIME; NONE, doing nothing, for another number, "
                + "or if it would be above 100,000.");
        WebCourt x = new WebCourt();
        Check.due("later(0)", x.later(0), 0);
        Check.due("later(1000)", x.later(1000), 1000);
        for (int by : new int[] {-1, 1001, MIN, MAX}) {
            Check.due("later(" + by + ")", x.later(by), NONE);
            Check.due("the time", x.about(11), 1000);
        }
        for (int i = 2; i <= 99; i++) {
            x.later(1000);
        }
        Check.due("later(999)", x.later(999), 99999);
        Check.due("later(2)", x.later(2), NONE);
        Check.due("later(1000) of 99999", x.later(1000), NONE);
        Check.due("the time still", x.about(11), 99999);
        Check.due("later(1)", x.later(1), 100000);
        Check.due("later(1) again", x.later(1), NONE);
        Check.due("later(0) at the end", x.later(0), 100000);
    }

    private static void fits() {
        Check.says(42, "FITS: how many (0 without PLEAS).");
        Check.due("without pleas", Check.court("knot k;").fits(0), 0);
        Check.due("of a new object", new WebCourt().fits(0), 0);
        Check.due("without cases", Check.court("plea p strong 1;").fits(0), 31);
        WebCourt x = Check.court(WEB);
        x.heard(1, 1, true);
        for (int k : new int[] {0, 1, 100000, 100001, MAX}) {
            Check.due("fits(" + k + ")", x.fits(k), 25);
        }
        for (int k : new int[] {-1, MIN}) {
            Check.due("fits(" + k + ")", x.fits(k), 31);
        }
        x.heard(0, 0, true);
        Check.due("none fits", x.fits(0), 0);
    }

    private static void sure() {
        Check.says(43, "NONE if none FITS, or for another what");
        WebCourt x = Check.court(WEB);
        for (int what : NO_WHAT) {
            Check.due("sure(" + what + ", 0)", x.sure(what, 0), NONE);
        }
        x.heard(0, 0, true);
        Check.due("none fits: the least", x.sure(0, 0), NONE);
        Check.due("none fits: the greatest", x.sure(1, 0), NONE);
        Check.due("ahead of that: the least", x.sure(0, -1), 0);
        Check.due("ahead of that: the greatest", x.sure(1, -1), 30);
        Check.due("without pleas", Check.court("knot k;").sure(0, 0), NONE);
        Check.due("without pleas: the greatest", Check.court("knot k;").sure(1, 0), NONE);
    }

    private static void ask() {
        Check.says(44, "NONE if none FITS, there are no CASES, or for another what");
        WebCourt x = Check.court(WEB);
        for (int what : NO_WHAT) {
            Check.due("ask(" + what + ", 0)", x.ask(what, 0), NONE);
        }
        x.heard(0, 0, true);
        Check.due("none fits: the case", x.ask(0, 0), NONE);
        Check.due("none fits: how many", x.ask(1, 0), NONE);
        Check.due("ahead of that: the case", x.ask(0, -1), 1);
        Check.due("ahead of that: how many", x.ask(1, -1), 25);
        WebCourt none = Check.court("knot k;plea p strong 1;");
        Check.due("no cases: the case", none.ask(0, 0), NONE);
        Check.due("no cases: how many", none.ask(1, 0), NONE);
        Check.due("no pleas", Check.court("knot k;").ask(0, 0), NONE);
    }
}
