import java.lang.reflect.Method;
import java.lang.reflect.Modifier;
import java.nio.charset.StandardCharsets;
import java.util.ArrayList;
import java.util.Comparator;
import java.util.List;

/** What the tests share: answers against what is due, and webs from texts. */
final class Check {
    private static int wrong = 0;
    private static int checked = 0;

    private Check() {
    }

    static void due(String call, long got, long want) {
        checked++;
        if (got != want) {
            wrong++;
            System.out.println(call + " answered " + got + ", due is " + want);
        }
    }

    static void due(String call, boolean got, boolean want) {
        due(call, got ? 1 : 0, want ? 1 : 0);
    }

    /** The public methods, always in the same order. */
    static List<Method> face() {
        List<Method> methods = new ArrayList<>();
        for (Method method : WebCourt.class.getDeclaredMethods()) {
            if (Modifier.isPublic(method.getModifiers())) {
                methods.add(method);
            }
        }
        methods.sort(Comparator.comparing(Method::getName));
        return methods;
    }

    /** Feeds a text to the tape, which must be empty. */
    static void feed(WebCourt x, String text) {
        feed(x, text.getBytes(StandardCharsets.ISO_8859_1));
    }

    static void feed(WebCourt x, byte[] bytes) {
        for (int i = 0; i < bytes.length; i += 20) {
            x.feed(four(bytes, i), four(bytes, i + 4), four(bytes, i + 8), four(bytes, i + 12), four(bytes, i + 16));
        }
        x.end(bytes.length);
    }

    static int four(byte[] bytes, int from) {
        int number = 0;
        for (int i = from; i < from + 4; i++) {
            number = number << 8 | (i < bytes.length ? bytes[i] & 255 : 32);
        }
        return number;
    }

    /** A new object with the web of a text that has no fault. */
    static WebCourt court(String text) {
        WebCourt x = new WebCourt();
        feed(x, text);
        if (x.web() == WebCourt.NONE) {
            due("fault " + x.fault(0) + " at " + x.fault(1) + " of " + text, 1, 0);
        }
        return x;
    }

    /** The first fault of a text is this one. */
    static void fault(String text, int number, int place) {
        WebCourt x = new WebCourt();
        feed(x, text);
        due("web() of " + text, x.web(), WebCourt.NONE);
        due("fault(0) of " + text, x.fault(0), number);
        due("fault(1) of " + text, x.fault(1), place);
    }

    /** A text without a fault tells so many cases. */
    static WebCourt fine(String text, int cases) {
        WebCourt x = new WebCourt();
        feed(x, text);
        due("web() of " + text, x.web(), cases);
        due("fault(0) of " + text, x.fault(0), 0);
        due("fault(1) of " + text, x.fault(1), WebCourt.NONE);
        return x;
    }

    static void lie(String call, WebCourt x, int... numbers) {
        due("about(14) behind " + call, x.about(14), numbers.length);
        for (int i = 0; i < numbers.length; i++) {
            due("lies(" + i + ") behind " + call, x.lies(i), numbers[i]);
        }
        due("lies(" + numbers.length + ") behind " + call, x.lies(numbers.length), WebCourt.NONE);
        due("lies(-1) behind " + call, x.lies(-1), WebCourt.NONE);
    }

    static void finish() {
        System.out.println(wrong == 0 ? checked + " answers are as due" : wrong + " answers are not as due");
        if (wrong != 0 || checked == 0) {
            System.exit(1);
        }
    }
}
