import java.util.ArrayList;
import java.util.List;

/** All that calls show of an object, so that two can be compared; looking uses the object up. */
final class Seen {
    private final WebCourt x;
    private final List<String> seen = new ArrayList<>();
    private String when = "";
    private int cases;

    private Seen(WebCourt x) {
        this.x = x;
    }

    /** What is now, what lies there, behind each redo and undo, in each box, and what the tape tells. */
    static List<String> all(WebCourt x) {
        Seen looked = new Seen(x);
        looked.told();
        looked.now();
        looked.lying();
        looked.hearsay();
        looked.acts();
        looked.boxes();
        looked.tape();
        return looked.seen;
    }

    private void add(String call, int answer) {
        seen.add(when + call + " = " + answer);
    }

    private void told() {
        for (int what : new int[] {0, 1, 2, 3, 8, 9, 12, 13}) {
            add("about(" + what + ")", x.about(what));
        }
        cases = x.about(0);
        int knots = x.about(1);
        int pleas = x.about(3);
        for (int knot = 0; knot < knots; knot++) {
            add("knot(" + knot + ", 0)", x.knot(knot, 0));
            add("knot(" + knot + ", 2)", x.knot(knot, 2));
        }
        for (int plea = 0; plea < pleas; plea++) {
            add("plea(" + plea + ")", x.plea(plea));
        }
        for (int item = 0; item < cases; item++) {
            add("item(" + item + ", 0)", x.item(item, 0));
            add("item(" + item + ", 3)", x.item(item, 3));
            add("verdict(" + item + ")", x.verdict(item));
        }
        add("odds(1, 0)", x.odds(1, 0));
        add("odds(1, 1)", x.odds(1, 1));
    }

    private void now() {
        for (int what : new int[] {4, 5, 6, 7, 15}) {
            add("about(" + what + ")", x.about(what));
        }
        for (int item = 0; item < cases; item++) {
            for (int what : new int[] {1, 2, 4, 5}) {
                add("item(" + item + ", " + what + ")", x.item(item, what));
            }
        }
    }

    private void lying() {
        int count = x.about(14);
        add("about(14)", count);
        for (int i = 0; i <= count; i++) {
            add("lies(" + i + ")", x.lies(i));
        }
    }

    private void hearsay() {
        int time = x.about(11);
        add("about(10)", x.about(10));
        add("about(11)", time);
        for (int k = 0; k <= time && k < 6; k++) {
            add("fits(" + k + ")", x.fits(k));
            add("sure(0, " + k + ")", x.sure(0, k));
        }
    }

    private void acts() {
        int redone = 0;
        while (x.redo()) {
            redone++;
            when = redone + " redone: ";
            now();
        }
        int undone = 0;
        while (x.undo()) {
            undone++;
            when = undone + " undone: ";
            now();
        }
    }

    private void boxes() {
        for (int box = 0; box < 3; box++) {
            when = "";
            add("restore(" + box + ")", x.restore(box));
            when = "box " + box + ": ";
            now();
        }
    }

    private void tape() {
        when = "the tape: ";
        add("web()", x.web());
        add("fault(0)", x.fault(0));
        add("fault(1)", x.fault(1));
        x.end(0);
        told();
        now();
    }
}
