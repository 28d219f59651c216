import java.lang.reflect.Method;
import java.nio.charset.StandardCharsets;
import java.util.Arrays;
import java.util.List;
import java.util.Random;

/** Random texts and runs of calls, each answered by the class and by the plain model of the document. */
public final class OracleTest {
    private static final int RUNS = 1500;
    private static final int CALLS = 300;
    private static final String[] NAMES = {"a", "b", "cc", "ddd", "eggs", "f", "gnat", "both", "one", "wasp"};
    private final Random random;
    private final WebCourt real = new WebCourt();
    private final Model model = new Model();
    private final StringBuilder log = new StringBuilder();

    private OracleTest(long seed) {
        random = new Random(seed);
    }

    public static void main(String[] args) throws Exception {
        List<Method> methods = Check.face();
        for (int seed = 1; seed <= RUNS; seed++) {
            new OracleTest(seed).run(seed, methods);
        }
        for (int seed = 1; seed <= 4000; seed++) {
            new OracleTest(-seed).texts(seed);
        }
        Check.finish();
    }

    private void run(int seed, List<Method> methods) throws Exception {
        boolean same = tell(webText());
        for (int i = 0; i < CALLS && same; i++) {
            Method method = methods.get(random.nextInt(methods.size()));
            String name = method.getName();
            if (name.equals("feed") || name.equals("end") || name.equals("web")) {
                same = random.nextInt(20) != 0 || tell(random.nextInt(3) == 0 ? mutated(webText()) : webText());
            } else {
                same = call(method, arguments(name, method.getParameterCount()));
            }
            if (random.nextInt(2) == 0) {
                same = same && act();
            }
            same = same && looked();
        }
        Check.due("run " + seed + log, same, true);
    }

    /** Acts that mostly can be, so that runs come to where hearings and comings back are. */
    private boolean act() throws Exception {
        int cases = Math.max(1, real.about(0));
        int[] nextKnots = new int[] {random.nextInt(8), Math.max(0, real.about(4))};
        Method hear = WebCourt.class.getMethod("hear", int.class);
        for (int i = 0; i < cases && random.nextInt(3) > 0; i++) {
            if (!call(hear, new Object[] {i})) {
                return false;
            }
        }
        return call(WebCourt.class.getMethod("hour", int.class), new Object[] {nextKnots[random.nextInt(2)]});
    }

    private void texts(int seed) throws Exception {
        boolean same = true;
        for (int i = 0; i < 3 && same; i++) {
            String text = webText();
            same = tell(random.nextInt(8) == 0 ? text : mutated(text)) && looked();
        }
        Check.due("texts " + seed + log, same, true);
    }

    private boolean looked() {
        for (int what = 0; what <= 15; what++) {
            if (real.about(what) != model.about(what)) {
                log.append(" about(").append(what).append(") ").append(real.about(what)).append(" due ")
                        .append(model.about(what));
                return false;
            }
        }
        for (int item = 0; item < 6; item++) {
            for (int what = 0; what <= 5; what++) {
                if (real.item(item, what) != model.item(item, what)) {
                    log.append(" item(").append(item).append(", ").append(what).append(")");
                    return false;
                }
            }
        }
        for (int i = 0; i < 9; i++) {
            if (real.lies(i) != model.lies(i)) {
                log.append(" lies(").append(i).append(") ").append(real.lies(i)).append(" due ").append(model.lies(i));
                return false;
            }
        }
        return true;
    }

    private boolean call(Method method, Object[] arguments) throws Exception {
        Object got = method.invoke(real, arguments);
        Object want = Model.class.getMethod(method.getName(), method.getParameterTypes()).invoke(model, arguments);
        log.append(' ').append(method.getName()).append(Arrays.toString(arguments)).append('=').append(got);
        if (!got.equals(want)) {
            log.append(" due ").append(want);
        }
        return got.equals(want);
    }

    private Object[] arguments(String name, int count) {
        Object[] arguments = new Object[count];
        for (int i = 0; i < count; i++) {
            arguments[i] = number(i);
        }
        if (name.equals("heard")) {
            arguments[1] = random.nextInt(40) == 0 ? 9999 + random.nextInt(2) : random.nextInt(30) - 10;
            arguments[2] = random.nextBoolean();
        } else if (name.equals("later")) {
            arguments[0] = random.nextInt(10) - 1;
        } else if (name.equals("fits") || name.equals("sure") || name.equals("ask")) {
            arguments[count - 1] = random.nextInt(10) == 0 ? random.nextInt() : random.nextInt(real.about(11) + 3) - 1;
        } else if (name.equals("term") || name.equals("precedent") || name.equals("untell")) {
            arguments[0] = random.nextInt(34) - 1;
        } else if (name.equals("spin")) {
            arguments[0] = random.nextInt(16);
        } else if (name.equals("plead") || name.equals("drop")) {
            arguments[1] = random.nextInt(9);
        }
        return arguments;
    }

    private int number(int which) {
        if (random.nextInt(60) == 0) {
            return random.nextInt();
        }
        return random.nextInt(which == 0 ? 8 : 4) - (random.nextInt(20) == 0 ? 1 : 0);
    }

    private boolean tell(String text) throws Exception {
        log.append("\n").append(text.replace("\n", "\\n")).append("\n");
        byte[] bytes = text.getBytes(StandardCharsets.ISO_8859_1);
        real.end(0);
        model.end(0);
        Check.feed(real, bytes);
        for (int i = 0; i < bytes.length; i += 20) {
            model.feed(Check.four(bytes, i), Check.four(bytes, i + 4), Check.four(bytes, i + 8),
                    Check.four(bytes, i + 12), Check.four(bytes, i + 16));
        }
        model.end(bytes.length);
        return real.about(12) == model.about(12) && call(WebCourt.class.getMethod("web"), new Object[0])
                && call(WebCourt.class.getMethod("fault", int.class), new Object[] {0})
                && call(WebCourt.class.getMethod("fault", int.class), new Object[] {1});
    }

    private String webText() {
        StringBuilder text = new StringBuilder();
        int knots = 1 + random.nextInt(8);
        int pleas = 1 + random.nextInt(8);
        int lines = random.nextInt(50) == 0 ? 15 : 14;
        for (int i = 0; i < knots; i++) {
            text.append("knot ").append(NAMES[i]).append(";");
        }
        for (int i = 0; i < knots; i++) {
            for (int j = i + 1; j < knots; j++) {
                if (random.nextInt(knots) < 3 && lines > 0) {
                    lines--;
                    text.append("line ").append(NAMES[j]).append(' ').append(NAMES[i])
                            .append(random.nextInt(4) == 0 ? " sticky;" : " ;");
                }
            }
        }
        for (int i = 0; i < pleas; i++) {
            text.append("plea ").append(NAMES[i]).append(" strong ").append(random.nextInt(21)).append(";\n");
        }
        int cases = random.nextInt(7);
        for (int i = 0; i < cases; i++) {
            text.append("case ").append(NAMES[i]).append(" at ").append(NAMES[random.nextInt(knots)]).append(" pleads");
            int many = 1 + random.nextInt(Math.min(4, pleas));
            int from = random.nextInt(pleas);
            for (int k = 0; k < many; k++) {
                text.append(' ').append(NAMES[(from + k) % pleas]);
            }
            text.append(";");
        }
        if (random.nextInt(3) > 0) {
            text.append("bench ").append(NAMES[random.nextInt(knots)]).append(";");
        }
        if (random.nextInt(4) > 0) {
            text.append("law ").append(formula(0)).append(";");
        }
        if (random.nextInt(4) > 0) {
            text.append("back ").append(random.nextInt(101)).append(";");
        }
        if (random.nextInt(3) > 0) {
            text.append("draw ").append(random.nextInt(1000)).append(";");
        }
        return text.length() > 1600 ? "knot a;" : text.toString();
    }

    private String formula(int depth) {
        int kind = random.nextInt(depth > 4 ? 3 : 10);
        switch (kind) {
            case 0:
                return Integer.toString(random.nextInt(random.nextInt(10) == 0 ? 10000 : 8));
            case 1:
            case 2:
                return new String[] {"pleads", "pleads", "many", "before", "stays", "kin", "hour"}[random.nextInt(7)];
            case 3:
                return "(" + formula(depth + 1) + ")";
            case 4:
                return "not " + formula(depth + 1);
            case 5:
                return formula(depth + 1) + (random.nextBoolean() ? " and " : " or ") + formula(depth + 1);
            case 6:
                return "(" + formula(depth + 1) + ")" + "<>=".charAt(random.nextInt(3)) + "(" + formula(depth + 1) + ")";
            case 7:
                return "(" + formula(depth + 1) + ")" + "*/%".charAt(random.nextInt(3)) + "(" + formula(depth + 1) + ")";
            default:
                return formula(depth + 2) + "+-".charAt(random.nextInt(2)) + "(" + formula(depth + 1) + ")";
        }
    }

    private String mutated(String text) {
        String[] pieces = {"knot", "not ", ";", "(", ")", "1", "23456", "9x", "abcdefgh", "abcdefghi", " ", "\n", "a",
            "sticky", "law 1;", "back 5;", "draw 9;", "bench a;", "knot z;", "plea z strong 20;", "plea y strong 21;",
            "line a b;", "case q at a pleads a;", "A", "\t", "" + (char) 233, "+", "%", "<", "or", "and", "pleads"};
        StringBuilder changed = new StringBuilder(text);
        int times = 1 + random.nextInt(2);
        for (int i = 0; i < times; i++) {
            int at = random.nextInt(changed.length() + 1);
            int way = random.nextInt(4);
            if (way == 0) {
                changed.delete(at, Math.min(changed.length(), at + 1 + random.nextInt(4)));
            } else if (way == 1) {
                int semicolon = changed.indexOf(";", at);
                changed.insert(semicolon < 0 ? at : semicolon + 1, pieces[random.nextInt(pieces.length)]);
            } else if (way == 2) {
                changed.insert(at, pieces[random.nextInt(pieces.length)]);
            } else {
                int end = Math.min(changed.length(), at + 1);
                changed.replace(at, end, pieces[random.nextInt(pieces.length)]);
            }
        }
        return changed.length() > 1600 ? changed.substring(0, 1600) : changed.toString();
    }
}
