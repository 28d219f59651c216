import java.util.function.ToIntFunction;

/** Calls that do nothing leave all as it is: each on one of two objects that were alike, which stay so. */
final class EdgeRefused {
    private static final int NO_VERDICT = -1000000000;
    private static final int MIN = Integer.MIN_VALUE;
    private static final int MAX = Integer.MAX_VALUE;

    private EdgeRefused() {
    }

    static void run() {
        texts();
        acts();
        others();
        questions();
    }

    /**
     * x is let off, w was let off and came back, y is kept, z stayed; she is at a, one was heard in this hour; there is
     * something to undo, to redo, in the boxes 0 and 1, on the tape, heard, untold and lying there.
     */
    private static WebCourt rich() {
        WebCourt x = Check.court("knot a;knot b;knot c;line a b;line b c sticky;plea p strong 8;plea q strong 1;"
                + "plea r strong 5;case w at b pleads p;case x at a pleads p q;case y at a pleads q;case z at a pleads r;"
                + "back 50;draw 7;");
        x.later(2);
        x.heard(3, 1, true);
        x.heard(3, 9, false);
        x.later(1);
        x.untell(1);
        x.hour(1);
        x.hear(0);
        x.hour(0);
        x.image(0);
        x.hear(2);
        x.hour(0);
        x.hear(1);
        x.image(1);
        x.hour(0);
        x.hear(3);
        x.spin(0);
        x.undo();
        Check.feed(x, "knot kk;back 7;");
        x.way(1);
        return x;
    }

    private static void nothing(String call, ToIntFunction<WebCourt> act, int want) {
        WebCourt one = rich();
        WebCourt twin = rich();
        Check.due(call, act.applyAsInt(one), want);
        Check.same(call, one, twin);
    }

    private static WebCourt fullTape() {
        WebCourt x = Check.court("knot a;");
        Check.feed(x, " ".repeat(1593) + "knot b;");
        return x;
    }

    private static void texts() {
        Check.says(2, "NONE, and nothing comes, if there would be more than 1,600");
        WebCourt one = fullTape();
        WebCourt twin = fullTape();
        Check.due("feed", one.feed(MIN, MAX, 0, 0x23232323, -1), -1);
        Check.same("feed", one, twin);
        Check.says(3, "NONE, doing nothing, if it has not so many, or n is below 0");
        for (int n : new int[] {-1, 16, 1600, MIN, MAX}) {
            nothing("end(" + n + ")", x -> x.end(n), -1);
        }
        Check.says(5, "Of the latest web() what 0: its FAULT (0), 1: its place (NONE).");
        nothing("fault(0)", x -> x.fault(0), 0);
        nothing("fault(1)", x -> x.fault(1), -1);
    }

    private static void acts() {
        Check.says(10, "-1, doing nothing, if there is no such LINE that is not sticky, no such KNOT, or behind 999 HOURS");
        for (int knot : new int[] {-1, 2, 3, 32, MIN, MAX}) {
            nothing("hour(" + knot + ")", x -> x.hour(knot), -1);
        }
        Check.says(11, "NONE, doing nothing, if it is not HELD where SHE is, one was heard in this HOUR, or there is none such");
        for (int item : new int[] {-1, 0, 1, 2, 3, 4, 32, MIN, MAX}) {
            nothing("hear(" + item + ")", x -> x.hear(item), -1);
        }
        Check.says(12, "-1000000000, doing nothing, if it has it, or 4, or one can't be");
        for (int plea : new int[] {-1, 0, 1, 3, 32, MIN, MAX}) {
            nothing("plead(1, " + plea + ")", x -> x.plead(1, plea), NO_VERDICT);
        }
        for (int item : new int[] {-1, 4, 32, MIN, MAX}) {
            nothing("plead(" + item + ", 0)", x -> x.plead(item, 0), NO_VERDICT);
        }
        Check.says(13, "-1000000000, doing nothing, if it has it not, or no other one, or one can't be");
        for (int plea : new int[] {-1, 2, 3, 32, MIN, MAX}) {
            nothing("drop(1, " + plea + ")", x -> x.drop(1, plea), NO_VERDICT);
        }
        nothing("drop(0, 0)", x -> x.drop(0, 0), NO_VERDICT);
        for (int item : new int[] {-1, 4, 32, MIN, MAX}) {
            nothing("drop(" + item + ", 0)", x -> x.drop(item, 0), NO_VERDICT);
        }
        Check.says(14, "NONE, doing nothing, if it is HELD, or there is none such");
        for (int item : new int[] {-1, 0, 3, 4, 32, MIN, MAX}) {
            nothing("grab(" + item + ")", x -> x.grab(item), -1);
        }
        Check.says(15, "NONE, doing nothing, if there is none such");
        for (int line : new int[] {-1, 2, 32, MIN, MAX}) {
            nothing("spin(" + line + ")", x -> x.spin(line), -1);
        }
        Check.says(17, "false if there is none.");
        nothing("redo() twice and undo()", x -> (x.redo() ? 100 : 0) + (x.redo() ? 10 : 0) + (x.undo() ? 1 : 0), 101);
    }

    private static void others() {
        Check.says(39, "NONE, doing nothing, if one can't be, there are 30, or no PLEAS");
        for (int item : new int[] {-1, 4, 32, MIN, MAX}) {
            nothing("heard(" + item + ", 0, true)", x -> x.heard(item, 0, true), -1);
        }
        for (int verdict : new int[] {-10000, 10000, MIN, MAX}) {
            nothing("heard(0, " + verdict + ", false)", x -> x.heard(0, verdict, false), -1);
        }
        Check.says(40, "false if it is so already, or there is none such");
        for (int heard : new int[] {-1, 1, 2, 32, MIN, MAX}) {
            nothing("untell(" + heard + ")", x -> x.untell(heard) ? 1 : 0, 0);
        }
        Check.says(41, "NONE, doing nothing, for another number");
        for (int by : new int[] {-1, 1001, MIN, MAX}) {
            nothing("later(" + by + ")", x -> x.later(by), -1);
        }
        nothing("later(0)", x -> x.later(0), 3);
        Check.says(45, "NONE if there is none such.");
        for (int box : new int[] {-1, 3, 32, MIN, MAX}) {
            nothing("image(" + box + ")", x -> x.image(box), -1);
        }
        Check.says(46, "NONE, doing nothing, if nothing was.");
        for (int box : new int[] {-1, 2, 3, 32, MIN, MAX}) {
            nothing("restore(" + box + ")", x -> x.restore(box), -1);
        }
    }

    private static void questions() {
        Check.says(0, "By what is now; nothing is done");
        for (int item = -1; item <= 4; item++) {
            int number = item;
            asked("the questions of case " + item, x -> {
                x.shortest(number, 0);
                x.shortest(number, 1);
                x.honest(number, 0);
                x.honest(number, 1);
                x.leave(number);
                x.advice(number, 0);
                x.advice(number, 1);
                x.loophole(number);
                x.verdict(number);
                x.item(number, 2);
                return 0;
            });
        }
        for (int what = -1; what <= 3; what++) {
            int number = what;
            asked("the questions of what " + what, x -> {
                x.contrary(number);
                x.bridge(number);
                x.forbid(number);
                x.swap(number);
                x.odds(4, number);
                x.sure(number, 2);
                x.ask(number, 2);
                x.term(number * 10);
                x.precedent(number);
                x.knot(number, 0);
                x.plea(number);
                return 0;
            });
        }
        asked("the other questions", x -> {
            x.hopeless();
            x.free();
            x.reach();
            x.fashion();
            x.likeliest();
            x.fits(1);
            x.about(8);
            x.lies(0);
            return 0;
        });
        laid("way(2)", x -> x.way(2), -1);
        laid("way(0)", x -> x.way(0), 0);
        laid("round()", WebCourt::round, 2);
        laid("rivals(0, 3)", x -> x.rivals(0, 3), 2);
        laid("rivals(0, 1)", x -> x.rivals(0, 1), -1);
    }

    private static void asked(String call, ToIntFunction<WebCourt> act) {
        nothing(call, act, 0);
    }

    /** What changes nothing but what lies there. */
    private static void laid(String call, ToIntFunction<WebCourt> act, int want) {
        WebCourt one = rich();
        WebCourt twin = rich();
        Check.due(call, act.applyAsInt(one), want);
        one.way(1);
        Check.same(call, one, twin);
    }
}
