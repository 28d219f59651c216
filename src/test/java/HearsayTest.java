/** Promises 39 to 44: what is heard, the time, what fits, the next case to ask of. */
public final class HearsayTest {
    private static final int NONE = WebCourt.NONE;
    // The verdicts, the last plea being s: -2, s - 5, s - 2.
    private static final String WEB = "knot k;plea a strong 3;plea b strong 9;case x at k pleads a;case y at k pleads b;"
            + "case z at k pleads a b;";

    public static void main(String[] args) {
        nothingHeard();
        telling();
        wrongTelling();
        thirty();
        untelling();
        times();
        later();
        noneFits();
        asking();
        theWebAsTold();
        Check.finish();
    }

    private static void nothingHeard() {
        WebCourt x = Check.court(WEB);
        Check.due("fits(0)", x.fits(0), 31);
        Check.due("fits(-5)", x.fits(-5), 31);
        Check.due("sure(0, 0)", x.sure(0, 0), 0);
        Check.due("sure(1, 0)", x.sure(1, 0), 30);
        WebCourt none = Check.court("knot k;");
        Check.due("fits(0) without pleas", none.fits(0), 0);
        Check.due("sure(0, 0) without pleas", none.sure(0, 0), NONE);
        Check.due("ask(0, 0) without pleas", none.ask(0, 0), NONE);
        WebCourt noCases = Check.court("plea a strong 1;");
        Check.due("fits(0) without cases", noCases.fits(0), 31);
        Check.due("sure(1, 0) without cases", noCases.sure(1, 0), 30);
        Check.due("ask(0, 0) without cases", noCases.ask(0, 0), NONE);
        Check.due("ask(1, 0) without cases", noCases.ask(1, 0), NONE);
    }

    private static void telling() {
        WebCourt x = Check.court(WEB);
        Check.due("heard(1, 1, true)", x.heard(1, 1, true), 0);
        Check.due("fits(0): 6 .. 30", x.fits(0), 25);
        Check.due("sure(0, 0)", x.sure(0, 0), 6);
        Check.due("sure(1, 0)", x.sure(1, 0), 30);
        Check.due("heard(2, 10, false)", x.heard(2, 10, false), 1);
        Check.due("fits(0): 6 .. 11", x.fits(0), 6);
        Check.due("sure(1, 0) then", x.sure(1, 0), 11);
        Check.due("sure(2, 0)", x.sure(2, 0), NONE);
        Check.due("sure(-1, 0)", x.sure(-1, 0), NONE);
        Check.due("what is heard", x.about(10), 2);
        // What says nothing of the last plea, but is so.
        Check.due("heard(0, -2, true)", x.heard(0, -2, true), 2);
        Check.due("fits(0) still", x.fits(0), 6);
        Check.due("heard(0, -1, false)", x.heard(0, -1, false), 3);
        Check.due("fits(0) still", x.fits(0), 6);
    }

    private static void wrongTelling() {
        WebCourt x = Check.court(WEB);
        Check.due("heard(0, 9999, false)", x.heard(0, 9999, false), 0);
        Check.due("heard(0, -9999, true)", x.heard(0, -9999, true), 1);
        Check.due("heard(0, 10000, false)", x.heard(0, 10000, false), NONE);
        Check.due("heard(0, -10000, true)", x.heard(0, -10000, true), NONE);
        for (int item : new int[] {-1, 3, 6, Integer.MIN_VALUE, Integer.MAX_VALUE}) {
            Check.due("heard(" + item + ", 0, true)", x.heard(item, 0, true), NONE);
        }
        Check.due("what is heard", x.about(10), 2);
        Check.due("fits(0)", x.fits(0), 31);
        Check.due("heard without pleas", Check.court("knot k;").heard(0, 0, true), NONE);
    }

    private static void thirty() {
        WebCourt x = Check.court(WEB);
        for (int i = 0; i < 30; i++) {
            Check.due("heard " + i, x.heard(2, i, true), i);
        }
        Check.due("heard 30", x.heard(2, 0, true), NONE);
        Check.due("fits(0): 31 alone would", x.fits(0), 0);
        x.untell(29);
        Check.due("fits(0): 30", x.fits(0), 1);
        Check.due("heard 30, one being untold", x.heard(2, 0, true), NONE);
        Check.due("what is heard", x.about(10), 30);
    }

    private static void untelling() {
        WebCourt x = Check.court(WEB);
        Check.due("untell(0) of none", x.untell(0), false);
        x.heard(1, 1, true);
        Check.due("untell(1)", x.untell(1), false);
        Check.due("untell(-1)", x.untell(-1), false);
        Check.due("untell(max)", x.untell(Integer.MAX_VALUE), false);
        Check.due("untell(0)", x.untell(0), true);
        Check.due("untell(0) again", x.untell(0), false);
        Check.due("fits(0)", x.fits(0), 31);
        Check.due("what is heard", x.about(10), 1);
        Check.due("another one", x.heard(1, 2, true), 1);
    }

    private static void times() {
        WebCourt x = Check.court(WEB);
        x.heard(1, 1, true);
        x.later(10);
        x.heard(1, 11, true);
        x.later(5);
        Check.due("untell(0) at 15", x.untell(0), true);
        x.later(5);
        Check.due("untell(1) at 20", x.untell(1), true);
        int[][] due = {{-1, 31}, {0, 25}, {9, 25}, {10, 15}, {14, 15}, {15, 15}, {19, 15}, {20, 31}, {1000, 31}};
        for (int[] pair : due) {
            Check.due("fits(" + pair[0] + ")", x.fits(pair[0]), pair[1]);
        }
        Check.due("sure(0, 9)", x.sure(0, 9), 6);
        Check.due("sure(0, 10)", x.sure(0, 10), 16);
        Check.due("fits(min)", x.fits(Integer.MIN_VALUE), 31);
        Check.due("fits(max)", x.fits(Integer.MAX_VALUE), 31);
        // Untold in between: the first counts from 0 to 1, the second from 1 on.
        WebCourt y = Check.court(WEB);
        y.heard(1, 1, true);
        y.later(1);
        y.heard(1, 20, false);
        y.later(1);
        y.untell(0);
        Check.due("fits(0)", y.fits(0), 25);
        Check.due("fits(1)", y.fits(1), 19);
        Check.due("fits(2)", y.fits(2), 25);
        Check.due("sure(1, 2)", y.sure(1, 2), 24);
    }

    private static void later() {
        WebCourt x = new WebCourt();
        Check.due("later(0)", x.later(0), 0);
        Check.due("later(-1)", x.later(-1), NONE);
        Check.due("later(1001)", x.later(1001), NONE);
        Check.due("later(max)", x.later(Integer.MAX_VALUE), NONE);
        for (int i = 1; i <= 99; i++) {
            Check.due("later(1000) " + i, x.later(1000), i * 1000);
        }
        Check.due("later(999)", x.later(999), 99999);
        Check.due("later(2)", x.later(2), NONE);
        Check.due("the time", x.about(11), 99999);
        Check.due("later(1)", x.later(1), 100000);
        Check.due("later(1) again", x.later(1), NONE);
        Check.due("later(0) at the end", x.later(0), 100000);
    }

    private static void noneFits() {
        WebCourt x = Check.court(WEB);
        x.heard(0, -1, true);
        Check.due("fits(0)", x.fits(0), 0);
        Check.due("sure(0, 0)", x.sure(0, 0), NONE);
        Check.due("sure(1, 0)", x.sure(1, 0), NONE);
        Check.due("ask(0, 0)", x.ask(0, 0), NONE);
        Check.due("ask(1, 0)", x.ask(1, 0), NONE);
        Check.due("ask(0, -1)", x.ask(0, -1), 1);
    }

    private static void asking() {
        WebCourt x = Check.court(WEB);
        // y parts 31 into 5, 1 and 25, z into 2, 1 and 28.
        Check.due("ask(0, 0)", x.ask(0, 0), 1);
        Check.due("ask(1, 0)", x.ask(1, 0), 25);
        Check.due("ask(2, 0)", x.ask(2, 0), NONE);
        Check.due("ask(-1, 0)", x.ask(-1, 0), NONE);
        x.heard(2, 3, false);
        // 0 .. 4 are left: y keeps them all, z parts them into 2, 1 and 2.
        Check.due("ask(0, 0) then", x.ask(0, 0), 2);
        Check.due("ask(1, 0) then", x.ask(1, 0), 2);
        x.heard(1, 1, true);
        Check.due("none fits", x.ask(0, 0), NONE);
        WebCourt like = Check.court(WEB);
        like.heard(1, 5, true);
        Check.due("the first of like ones", like.ask(0, 0), 0);
        Check.due("all are left", like.ask(1, 0), 21);
    }

    private static void theWebAsTold() {
        WebCourt x = Check.court("knot k;knot l;plea a strong 3;plea b strong 9;case x at k pleads b;"
                + "case y at k pleads a;law pleads - 5 - before * 2 + kin * 10 + hour * 100 + stays * 1000 + many;");
        // The verdict of x as told: s - 5 + 10 + 1.
        x.heard(0, 16, true);
        Check.due("fits(0)", x.fits(0), 21);
        x.hour(0);
        x.hear(1);
        x.hour(0);
        x.hear(0);
        x.plead(0, 0);
        x.drop(0, 1);
        Check.due("fits(0) whatever was done", x.fits(0), 21);
        Check.due("sure(0, 0)", x.sure(0, 0), 10);
        // y is 3 - 5 + 10 + 1 whatever s is; x is always above 0.
        Check.due("ask(1, 0)", x.ask(1, 0), 21);
        x.undo();
        Check.due("undo does not reach it", x.about(10), 1);
        WebCourt strong = Check.court("knot k;plea b strong 20;case x at k pleads b;law pleads;");
        Check.due("0 .. 30", strong.sure(1, 0), 30);
        strong.heard(0, 30, true);
        Check.due("30 alone", strong.fits(0), 1);
        Check.due("the least is 30", strong.sure(0, 0), 30);
        Check.due("the greatest is 30", strong.sure(1, 0), 30);
        WebCourt weak = Check.court("knot k;plea b strong 20;case x at k pleads b;law pleads;");
        weak.heard(0, 1, false);
        Check.due("0 alone", weak.fits(0), 1);
        Check.due("the least is 0", weak.sure(0, 0), 0);
        Check.due("the greatest is 0", weak.sure(1, 0), 0);
    }
}
