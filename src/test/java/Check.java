import java.io.IOException;
import java.io.UncheckedIOException;
import java.lang.reflect.Method;
import java.lang.reflect.Modifier;
import java.nio.charset.StandardCharsets;
import java.nio.file.Files;
import java.nio.file.Path;
import java.util.ArrayList;
import java.util.Comparator;
import java.util.List;
import java.util.Set;
import java.util.TreeSet;

/** What the tests share: answers against what is due, and webs from texts. */
final class Check {
    private static final Path DOCUMENT = Path.of("../shared/DOC.md");
    private static final Set<Integer> PROMISES = new TreeSet<>();
    private static final Set<String> SENTENCES = new TreeSet<>();
    private static int wrong = 0;
    private static int checked = 0;
    private static int checkedAhead = 0;
    private static String sentence = "";
    private static String document = "";

    private Check() {
    }

    static void due(String call, long got, long want) {
        checked++;
        if (got != want) {
            wrong++;
            System.out.println(sentence + call + " answered " + got + ", due is " + want);
        }
    }

    /** What follows tests this sentence of a promise (0: of the Terms), in the document's own words. */
    static void says(int promise, String words) {
        closeSentence();
        sentence = "[" + (promise == 0 ? "Terms" : "Promise " + promise) + ": " + words + "] ";
        SENTENCES.add(sentence);
        checkedAhead = checked;
        PROMISES.add(promise);
        String head = promise == 0 ? "## Terms" : "## Promise " + promise + ":";
        int from = document().indexOf(head);
        int to = from < 0 ? -1 : document().indexOf(" ## ", from);
        if (Files.exists(DOCUMENT) && (to < 0 || !document().substring(from, to).contains(words))) {
            wrong++;
            System.out.println(sentence + "does not stand in the document");
        }
    }

    private static void closeSentence() {
        if (!SENTENCES.isEmpty() && checked == checkedAhead) {
            wrong++;
            System.out.println(sentence + "has no test");
        }
        sentence = "";
    }

    private static String document() {
        if (document.isEmpty() && Files.exists(DOCUMENT)) {
            try {
                document = Files.readString(DOCUMENT).replaceAll("\\s+", " ");
            } catch (IOException e) {
                throw new UncheckedIOException(e);
            }
        }
        return document;
    }

    /** Each promise, and the Terms, had a sentence tested. */
    static void allPromises(int last) {
        closeSentence();
        for (int promise = 0; promise <= last; promise++) {
            due("a sentence of promise " + promise + " is tested", PROMISES.contains(promise), true);
        }
        System.out.println(SENTENCES.size() + " sentences of the document were tested");
    }

    static void due(String call, boolean got, boolean want) {
        due(call, got ? 1 : 0, want ? 1 : 0);
    }

    /** The public methods, always in the same order. */
    static List<Method> face() {
        List<Method> methods = new ArrayList<>();
        for (Method method : WebCourt.class.getDeclaredMethods()) {
            if (Modifier.isPublic(method.getModifiers())) {
                methods.add(method);
            }
        }
        methods.sort(Comparator.comparing(Method::getName));
        return methods;
    }

    /** Feeds a text to the tape, which must be empty. */
    static void feed(WebCourt x, String text) {
        feed(x, text.getBytes(StandardCharsets.ISO_8859_1));
    }

    static void feed(WebCourt x, byte[] bytes) {
        for (int i = 0; i < bytes.length; i += 20) {
            x.feed(four(bytes, i), four(bytes, i + 4), four(bytes, i + 8), four(bytes, i + 12), four(bytes, i + 16));
        }
        x.end(bytes.length);
    }

    static int four(byte[] bytes, int from) {
        int number = 0;
        for (int i = from; i < from + 4; i++) {
            number = number << 8 | (i < bytes.length ? bytes[i] & 255 : 32);
        }
        return number;
    }

    /** A new object with the web of a text that has no fault. */
    static WebCourt court(String text) {
        WebCourt x = new WebCourt();
        feed(x, text);
        if (x.web() == WebCourt.NONE) {
            due("fault " + x.fault(0) + " at " + x.fault(1) + " of " + text, 1, 0);
        }
        return x;
    }

    /** The first fault of a text is this one. */
    static void fault(String text, int number, int place) {
        WebCourt x = new WebCourt();
        feed(x, text);
        due("web() of " + text, x.web(), WebCourt.NONE);
        due("fault(0) of " + text, x.fault(0), number);
        due("fault(1) of " + text, x.fault(1), place);
    }

    /** A text without a fault tells so many cases. */
    static WebCourt fine(String text, int cases) {
        WebCourt x = new WebCourt();
        feed(x, text);
        due("web() of " + text, x.web(), cases);
        due("fault(0) of " + text, x.fault(0), 0);
        due("fault(1) of " + text, x.fault(1), WebCourt.NONE);
        return x;
    }

    /** A call on one of two objects that were alike has left it like the other one; both are used up then. */
    static void same(String call, WebCourt one, WebCourt twin) {
        List<String> left = Seen.all(one);
        List<String> right = Seen.all(twin);
        due("how much is seen behind " + call, left.size(), right.size());
        String unlike = "";
        for (int i = 0; i < left.size() && i < right.size() && unlike.isEmpty(); i++) {
            if (!left.get(i).equals(right.get(i))) {
                unlike = left.get(i) + ", and without it " + right.get(i);
            }
        }
        due(call + " changes " + unlike, unlike.isEmpty(), true);
    }

    static void lie(String call, WebCourt x, int... numbers) {
        due("about(14) behind " + call, x.about(14), numbers.length);
        for (int i = 0; i < numbers.length; i++) {
            due("lies(" + i + ") behind " + call, x.lies(i), numbers[i]);
        }
        due("lies(" + numbers.length + ") behind " + call, x.lies(numbers.length), WebCourt.NONE);
        due("lies(-1) behind " + call, x.lies(-1), WebCourt.NONE);
    }

    static void finish() {
        System.out.println(wrong == 0 ? checked + " answers are as due" : wrong + " answers are not as due");
        if (wrong != 0 || checked == 0) {
            System.exit(1);
        }
    }
}
