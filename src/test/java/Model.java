import java.util.ArrayList;
import java.util.Arrays;
import java.util.List;

/** The document again, written as plainly as can be and without regard for speed or room; an oracle for the tests. */
final class Model {
    static final int NO_VERDICT = -1000000000;
    private static final List<String> WORDS = Arrays.asList("knot", "line", "sticky", "plea", "strong", "case", "at",
            "pleads", "bench", "law", "back", "draw", "or", "and", "not", "many", "before", "stays", "kin", "hour");

    private interface Formula {
        int of(Given given);
    }

    private record Given(int pleads, int many, int before, int stays, int kin, int hour) {
    }

    private record Token(String text, int place) {
        boolean isName() {
            return text.matches("[a-z]+") && !WORDS.contains(text);
        }

        boolean isNumber() {
            return text.matches("[0-9]+");
        }
    }

    private static final class Fault extends RuntimeException {
        private static final long serialVersionUID = 1;
        final int number;
        final int place;

        Fault(int number, int place) {
            this.number = number;
            this.place = place;
        }
    }

    private static final class Told {
        final List<String> knots = new ArrayList<>();
        final List<int[]> lines = new ArrayList<>();
        final List<Boolean> sticky = new ArrayList<>();
        final List<String> pleas = new ArrayList<>();
        final List<Integer> strong = new ArrayList<>();
        final List<String> cases = new ArrayList<>();
        final List<Integer> where = new ArrayList<>();
        final List<Integer> pleads = new ArrayList<>();
        Integer bench;
        Formula law;
        Integer back;
        Integer draw;
        int units;
    }

    /** Reads one text; every fault is thrown where it is met, tokens being met in their order. */
    private static final class Parser {
        final String text;
        int next = 0;
        final Told told = new Told();

        Parser(String text) {
            this.text = text;
        }

        Token peek() {
            int from = next;
            while (from < text.length() && (text.charAt(from) == ' ' || text.charAt(from) == '\n')) {
                from++;
            }
            if (from == text.length()) {
                return new Token("", from);
            }
            String rest = text.substring(from);
            String run = rest.replaceFirst("(?s)^([a-z]+|[0-9]+|.).*$", "$1");
            boolean word = run.matches("[a-z]{1,8}");
            boolean number = run.matches("[0-9]{1,4}") && !rest.matches("(?s)[0-9]+[a-z].*");
            boolean sign = run.length() == 1 && ";()<>=+-*/%".contains(run);
            if (!word && !number && !sign) {
                throw new Fault(1, from);
            }
            return new Token(run, from);
        }

        Token take() {
            Token token = peek();
            next = token.place + token.text.length();
            return token;
        }

        boolean is(String text) {
            return peek().text.equals(text);
        }

        void want(String text) {
            Token token = peek();
            if (!token.text.equals(text)) {
                throw new Fault(2, token.place);
            }
            take();
        }

        String fresh(List<String> names) {
            Token token = peek();
            if (!token.isName()) {
                throw new Fault(2, token.place);
            }
            if (names.contains(token.text)) {
                throw new Fault(3, token.place);
            }
            return take().text;
        }

        int known(List<String> names) {
            Token token = peek();
            if (!token.isName()) {
                throw new Fault(2, token.place);
            }
            if (!names.contains(token.text)) {
                throw new Fault(5, token.place);
            }
            return names.indexOf(take().text);
        }

        int number(int most) {
            Token token = peek();
            if (!token.isNumber()) {
                throw new Fault(2, token.place);
            }
            if (Integer.parseInt(token.text) > most) {
                throw new Fault(4, token.place);
            }
            return Integer.parseInt(take().text);
        }

        Told read() {
            while (!peek().text.isEmpty()) {
                Token first = take();
                line(first);
                want(";");
            }
            return told;
        }

        void room(Token first, boolean is) {
            if (!is) {
                throw new Fault(2, first.place);
            }
        }

        void line(Token first) {
            if (first.text.equals("knot")) {
                room(first, told.knots.size() < 8);
                told.knots.add(fresh(told.knots));
            } else if (first.text.equals("line")) {
                room(first, told.lines.size() < 14);
                thread();
            } else if (first.text.equals("plea")) {
                room(first, told.pleas.size() < 8);
                String name = fresh(told.pleas);
                want("strong");
                told.strong.add(number(20));
                told.pleas.add(name);
            } else if (first.text.equals("case")) {
                room(first, told.cases.size() < 6);
                oneCase();
            } else if (first.text.equals("bench")) {
                room(first, told.bench == null);
                told.bench = known(told.knots);
            } else if (first.text.equals("law")) {
                room(first, told.law == null);
                told.law = e(0);
            } else if (first.text.equals("back")) {
                room(first, told.back == null);
                told.back = number(100);
            } else if (first.text.equals("draw")) {
                room(first, told.draw == null);
                told.draw = number(999);
            } else {
                throw new Fault(2, first.place);
            }
        }

        void thread() {
            int a = known(told.knots);
            Token second = peek();
            int b = known(told.knots);
            boolean again = a == b;
            for (int[] line : told.lines) {
                again |= Math.min(a, b) == Math.min(line[0], line[1]) && Math.max(a, b) == Math.max(line[0], line[1]);
            }
            if (again) {
                throw new Fault(3, second.place);
            }
            boolean sticky = is("sticky");
            if (sticky) {
                take();
            }
            told.lines.add(new int[] {a, b});
            told.sticky.add(sticky);
        }

        void oneCase() {
            String name = fresh(told.cases);
            want("at");
            int where = known(told.knots);
            want("pleads");
            List<Integer> pleas = new ArrayList<>();
            do {
                Token token = peek();
                if (pleas.size() == 4) {
                    throw new Fault(2, token.place);
                }
                int plea = known(told.pleas);
                if (pleas.contains(plea)) {
                    throw new Fault(3, token.place);
                }
                pleas.add(plea);
            } while (!is(";"));
            told.cases.add(name);
            told.where.add(where);
            int bits = 0;
            for (int plea : pleas) {
                bits += 1 << plea;
            }
            told.pleads.add(bits);
        }

        Formula e(int depth) {
            Formula sum = both(depth);
            while (is("or")) {
                take();
                Formula left = sum;
                Formula right = both(depth);
                sum = g -> left.of(g) != 0 | right.of(g) != 0 ? 1 : 0;
            }
            return sum;
        }

        Formula both(int depth) {
            Formula sum = one(depth);
            while (is("and")) {
                take();
                Formula left = sum;
                Formula right = one(depth);
                sum = g -> left.of(g) != 0 & right.of(g) != 0 ? 1 : 0;
            }
            return sum;
        }

        Formula one(int depth) {
            if (is("not")) {
                inner(depth, take());
                Formula behind = one(depth + 1);
                return g -> behind.of(g) == 0 ? 1 : 0;
            }
            Formula left = sum(depth);
            if (is("<") || is(">") || is("=")) {
                String sign = take().text;
                Formula right = sum(depth);
                return g -> related(Integer.compare(left.of(g), right.of(g)), sign) ? 1 : 0;
            }
            return left;
        }

        static boolean related(int order, String sign) {
            return sign.equals("<") && order < 0 || sign.equals(">") && order > 0 || sign.equals("=") && order == 0;
        }

        void inner(int depth, Token first) {
            if (depth >= 7) {
                throw new Fault(2, first.place);
            }
        }

        Formula sum(int depth) {
            Formula sum = term(depth);
            while (is("+") || is("-")) {
                boolean plus = take().text.equals("+");
                Formula left = sum;
                Formula right = term(depth);
                sum = g -> plus ? left.of(g) + right.of(g) : left.of(g) - right.of(g);
            }
            return sum;
        }

        Formula term(int depth) {
            Formula product = unit(depth);
            while (is("*") || is("/") || is("%")) {
                String sign = take().text;
                Formula left = product;
                Formula right = unit(depth);
                product = g -> multiplied(left.of(g), sign, right.of(g));
            }
            return product;
        }

        static int multiplied(int left, String sign, int right) {
            if (sign.equals("*")) {
                return left * right;
            }
            if (right == 0) {
                return 0;
            }
            return sign.equals("/") ? left / right : left % right;
        }

        Formula unit(int depth) {
            Token token = take();
            boolean word = Arrays.asList("pleads", "many", "before", "stays", "kin", "hour").contains(token.text);
            if (!token.isNumber() && !word && !token.text.equals("(") || told.units == 30) {
                throw new Fault(2, token.place);
            }
            told.units++;
            if (token.isNumber()) {
                int value = Integer.parseInt(token.text);
                return g -> value;
            }
            if (token.text.equals("(")) {
                inner(depth, token);
                Formula inside = e(depth + 1);
                want(")");
                return inside;
            }
            return switch (token.text) {
                case "pleads" -> Given::pleads;
                case "many" -> Given::many;
                case "before" -> Given::before;
                case "stays" -> Given::stays;
                case "kin" -> Given::kin;
                default -> Given::hour;
            };
        }
    }

    private static final class State {
        int at = -1;
        int hour;
        boolean heard;
        int seed;
        List<Boolean> sticky = new ArrayList<>();
        List<Integer> state = new ArrayList<>();
        List<Integer> pleas = new ArrayList<>();
        List<Integer> before = new ArrayList<>();
        List<Integer> stayed = new ArrayList<>();

        State copy() {
            State other = new State();
            other.at = at;
            other.hour = hour;
            other.heard = heard;
            other.seed = seed;
            other.sticky = new ArrayList<>(sticky);
            other.state = new ArrayList<>(state);
            other.pleas = new ArrayList<>(pleas);
            other.before = new ArrayList<>(before);
            other.stayed = new ArrayList<>(stayed);
            return other;
        }
    }

    private record Heard(int item, int verdict, boolean is, int told, int[] untold) {
    }

    private String tape = "";
    private int faultNumber = 0;
    private int faultPlace = -1;
    private Told told = new Told();
    private State now = new State();
    private List<State> past = new ArrayList<>();
    private List<State> future = new ArrayList<>();
    private List<Integer> lying = new ArrayList<>();
    private List<Heard> heards = new ArrayList<>();
    private int time = 0;
    private State[] boxes = new State[3];

    public int feed(int a, int b, int c, int d, int e) {
        if (tape.length() > 1580) {
            return -1;
        }
        for (int number : new int[] {a, b, c, d, e}) {
            for (int i = 3; i >= 0; i--) {
                tape += (char) (number >>> 8 * i & 255);
            }
        }
        return tape.length();
    }

    public int end(int n) {
        if (n < 0 || n > tape.length()) {
            return -1;
        }
        tape = tape.substring(0, n);
        return n;
    }

    public int web() {
        try {
            told = new Parser(tape).read();
        } catch (Fault fault) {
            faultNumber = fault.number;
            faultPlace = fault.place;
            return -1;
        }
        faultNumber = 0;
        faultPlace = -1;
        tape = "";
        now = new State();
        now.at = told.knots.isEmpty() ? -1 : told.bench == null ? 0 : told.bench;
        now.seed = told.draw == null ? 0 : told.draw;
        now.sticky = new ArrayList<>(told.sticky);
        now.pleas = new ArrayList<>(told.pleads);
        for (int i = 0; i < told.cases.size(); i++) {
            now.state.add(0);
            now.before.add(0);
            now.stayed.add(0);
        }
        past.clear();
        future.clear();
        lying.clear();
        heards.clear();
        boxes = new State[3];
        return told.cases.size();
    }

    public int fault(int what) {
        return what == 0 ? faultNumber : what == 1 ? faultPlace : -1;
    }

    private boolean anyKnot(int knot) {
        return knot >= 0 && knot < told.knots.size();
    }

    private boolean anyPlea(int plea) {
        return plea >= 0 && plea < told.pleas.size();
    }

    private boolean anyCase(int item) {
        return item >= 0 && item < told.cases.size();
    }

    private boolean isHeld(int item) {
        return anyCase(item) && now.state.get(item) == 0;
    }

    private boolean next(int a, int b, boolean sticky) {
        for (int i = 0; i < told.lines.size(); i++) {
            int[] line = told.lines.get(i);
            if (now.sticky.get(i) == sticky && (line[0] == a && line[1] == b || line[0] == b && line[1] == a)) {
                return true;
            }
        }
        return false;
    }

    public int knot(int knot, int what) {
        if (!anyKnot(knot) || what < 0 || what > 2) {
            return -1;
        }
        int bits = 0;
        for (int i = 0; i < 8; i++) {
            if (what < 2 ? anyKnot(i) && next(knot, i, what == 1) : isHeld(i) && told.where.get(i) == knot) {
                bits += 1 << i;
            }
        }
        return bits;
    }

    public int plea(int plea) {
        return anyPlea(plea) ? told.strong.get(plea) : -1;
    }

    public int item(int item, int what) {
        if (!anyCase(item)) {
            return -1;
        }
        return switch (what) {
            case 0 -> told.where.get(item);
            case 1 -> now.state.get(item);
            case 2 -> now.pleas.get(item);
            case 3 -> told.pleads.get(item);
            case 4 -> now.before.get(item);
            case 5 -> now.stayed.get(item);
            default -> -1;
        };
    }

    private int law(Given g) {
        return told.law == null ? g.pleads - 5 - g.before * 2 : told.law.of(g);
    }

    private int strength(int pleas) {
        int sum = 0;
        for (int i = 0; i < 8; i++) {
            sum += (pleas & 1 << i) == 0 ? 0 : told.strong.get(i);
        }
        return sum;
    }

    private int kin(int item) {
        int kin = 0;
        for (int i = 0; i < told.cases.size(); i++) {
            kin += i != item && isHeld(i) && told.where.get(i).equals(told.where.get(item)) ? 1 : 0;
        }
        return kin;
    }

    private int judge(int item, int pleas) {
        return law(new Given(strength(pleas), Integer.bitCount(pleas), now.before.get(item), now.stayed.get(item),
                kin(item), now.hour));
    }

    public int verdict(int item) {
        return anyCase(item) ? judge(item, now.pleas.get(item)) : NO_VERDICT;
    }

    private void act() {
        future.clear();
        past.add(now.copy());
        if (past.size() > 40) {
            past.remove(0);
        }
    }

    public int hour(int knot) {
        if (!anyKnot(knot) || knot != now.at && !next(now.at, knot, false) || now.hour >= 999) {
            return -1;
        }
        act();
        now.at = knot;
        now.hour++;
        now.heard = false;
        int bits = 0;
        for (int i = 0; i < told.cases.size(); i++) {
            if (now.state.get(i) == 1) {
                now.seed = (now.seed * 137 + 71) % 1000;
                if (now.seed % 100 < (told.back == null ? 0 : told.back)) {
                    now.state.set(i, 0);
                    bits |= 1 << i;
                }
            }
        }
        return bits;
    }

    public int hear(int item) {
        if (!isHeld(item) || told.where.get(item) != now.at || now.heard) {
            return -1;
        }
        act();
        int verdict = verdict(item);
        now.heard = true;
        if (verdict > 0) {
            now.state.set(item, 1);
            now.before.set(item, Math.min(99, now.before.get(item) + 1));
            return 1;
        }
        if (verdict < 0) {
            now.state.set(item, 2);
            return 2;
        }
        now.stayed.set(item, Math.min(99, now.stayed.get(item) + 1));
        return 0;
    }

    public int plead(int item, int plea) {
        if (!anyCase(item) || !anyPlea(plea) || (now.pleas.get(item) & 1 << plea) != 0
                || Integer.bitCount(now.pleas.get(item)) == 4) {
            return NO_VERDICT;
        }
        act();
        now.pleas.set(item, now.pleas.get(item) + (1 << plea));
        return verdict(item);
    }

    public int drop(int item, int plea) {
        if (!anyCase(item) || !anyPlea(plea) || (now.pleas.get(item) & 1 << plea) == 0
                || Integer.bitCount(now.pleas.get(item)) == 1) {
            return NO_VERDICT;
        }
        act();
        now.pleas.set(item, now.pleas.get(item) - (1 << plea));
        return verdict(item);
    }

    public int grab(int item) {
        if (!anyCase(item) || isHeld(item)) {
            return -1;
        }
        act();
        now.state.set(item, 0);
        return held().size();
    }

    public int spin(int line) {
        if (line < 0 || line >= told.lines.size()) {
            return -1;
        }
        act();
        now.sticky.set(line, !now.sticky.get(line));
        return now.sticky.get(line) ? 1 : 0;
    }

    public boolean undo() {
        if (past.isEmpty()) {
            return false;
        }
        future.add(now);
        now = past.remove(past.size() - 1);
        return true;
    }

    public boolean redo() {
        if (future.isEmpty()) {
            return false;
        }
        past.add(now);
        now = future.remove(future.size() - 1);
        return true;
    }

    private List<Integer> held() {
        List<Integer> list = new ArrayList<>();
        for (int i = 0; i < told.cases.size(); i++) {
            if (isHeld(i)) {
                list.add(i);
            }
        }
        return list;
    }

    private int fewest(int item, int allowed) {
        for (int many = 1; many <= 4; many++) {
            for (int set = 0; set < 256; set++) {
                if (Integer.bitCount(set) == many && (set | allowed) == allowed && judge(item, set) > 0) {
                    return set;
                }
            }
        }
        return 0;
    }

    private int fewest(int item, int allowed, int what) {
        int set = fewest(item, allowed);
        return set == 0 || what < 0 || what > 1 ? -1 : what == 0 ? Integer.bitCount(set) : set;
    }

    public int shortest(int item, int what) {
        return isHeld(item) ? fewest(item, (1 << told.pleas.size()) - 1, what) : -1;
    }

    public int honest(int item, int what) {
        return isHeld(item) ? fewest(item, told.pleads.get(item), what) : -1;
    }

    /** Ways of just so many hours, tried knot by knot from the least: the first one, or null. */
    private List<Integer> path(int from, int to, int hours) {
        if (hours == 0) {
            return from == to ? new ArrayList<>(List.of(from)) : null;
        }
        for (int i = 0; i < told.knots.size(); i++) {
            List<Integer> rest = next(from, i, false) ? path(i, to, hours - 1) : null;
            if (rest != null) {
                rest.add(0, from);
                return rest;
            }
        }
        return null;
    }

    public int way(int knot) {
        lying = new ArrayList<>();
        if (!anyKnot(knot) || steps(now.at, knot) == 1000) {
            return -1;
        }
        lying = path(now.at, knot, steps(now.at, knot));
        return lying.size() - 1;
    }

    /** The hour by which each set can be heard (99: never); hearing, going and waiting are tried hour by hour. */
    private int[] soonest(int hours) {
        int[] soonest = new int[64];
        Arrays.fill(soonest, 99);
        boolean[][] free = new boolean[8][64];
        boolean[][] busy = new boolean[8][64];
        List<Integer> held = held();
        if (now.at >= 0) {
            (now.heard ? busy : free)[now.at][0] = true;
        }
        for (int t = 0; t <= hours; t++) {
            boolean[][] then = new boolean[8][64];
            for (int set = 0; set < 64; set++) {
                for (int knot = 0; knot < told.knots.size(); knot++) {
                    for (int item : held) {
                        if (free[knot][set] && (set & 1 << item) == 0 && told.where.get(item) == knot) {
                            busy[knot][set + (1 << item)] = true;
                        }
                    }
                }
            }
            for (int knot = 0; knot < told.knots.size(); knot++) {
                int near = knot(knot, 0) | 1 << knot;
                for (int set = 0; set < 64; set++) {
                    for (int i = 0; i < 8 && (free[knot][set] || busy[knot][set]); i++) {
                        soonest[set] = Math.min(soonest[set], t);
                        then[i][set] |= (near & 1 << i) != 0;
                    }
                }
            }
            free = then;
            busy = new boolean[8][64];
        }
        return soonest;
    }

    private int steps(int from, int to) {
        List<Integer> seen = new ArrayList<>(List.of(from));
        for (int hours = 0; hours < told.knots.size(); hours++) {
            if (seen.contains(to)) {
                return hours;
            }
            for (int knot : new ArrayList<>(seen)) {
                for (int i = 0; i < told.knots.size(); i++) {
                    if (next(knot, i, false)) {
                        seen.add(i);
                    }
                }
            }
            seen = new ArrayList<>(new java.util.TreeSet<>(seen));
        }
        return 1000;
    }

    private int length(List<Integer> order) {
        int sum = 0;
        for (int i = 0; i < order.size(); i++) {
            int from = i == 0 ? now.at : told.where.get(order.get(i - 1));
            int step = steps(from, told.where.get(order.get(i)));
            sum += Math.max(step, i > 0 || now.heard ? 1 : 0);
        }
        return sum;
    }

    /** The first order of so many hours, or null. */
    private List<Integer> order(List<Integer> begun, List<Integer> left, int hours) {
        if (length(begun) > hours) {
            return null;
        }
        if (left.isEmpty()) {
            return begun;
        }
        for (int item : left) {
            List<Integer> more = new ArrayList<>(begun);
            more.add(item);
            List<Integer> rest = new ArrayList<>(left);
            rest.remove(Integer.valueOf(item));
            List<Integer> found = order(more, rest, hours);
            if (found != null) {
                return found;
            }
        }
        return null;
    }

    public int round() {
        lying = new ArrayList<>();
        int all = 0;
        for (int item : held()) {
            all += 1 << item;
        }
        int hours = soonest(45)[all];
        if (all == 0 || hours == 99) {
            return -1;
        }
        lying = order(new ArrayList<>(), held(), hours);
        return hours;
    }

    public int term(int n) {
        if (n < 0 || n > 30) {
            return -1;
        }
        int[] soonest = soonest(n);
        int most = 0;
        for (int set = 0; set < 64; set++) {
            most = soonest[set] <= n ? Math.max(most, Integer.bitCount(set)) : most;
        }
        return most;
    }

    public int leave(int item) {
        if (!isHeld(item)) {
            return -1;
        }
        State kept = now.copy();
        int answer = -1;
        for (int i = 1; i <= 30 && answer == -1; i++) {
            int verdict = verdict(item);
            if (verdict < 0) {
                break;
            }
            answer = verdict > 0 ? i : -1;
            now.stayed.set(item, Math.min(99, now.stayed.get(item) + 1));
            now.hour++;
        }
        now = kept;
        return answer;
    }

    public int contrary(int what) {
        for (int i : held()) {
            for (int j : held()) {
                if (i < j && now.pleas.get(i).equals(now.pleas.get(j))
                        && Math.signum((double) verdict(i)) != Math.signum((double) verdict(j))) {
                    return what == 0 ? i : what == 1 ? j : -1;
                }
            }
        }
        return -1;
    }

    public int hopeless() {
        int bits = 0;
        for (int i : held()) {
            bits += fewest(i, (1 << told.pleas.size()) - 1) == 0 ? 1 << i : 0;
        }
        return bits;
    }

    private int alone(int item, int plea, int others) {
        return judge(item, plea == others ? 0 : 1 << plea);
    }

    public int rivals(int item, int other) {
        lying = new ArrayList<>();
        if (item == other || !isHeld(item) || !isHeld(other) || told.pleas.isEmpty()) {
            return -1;
        }
        int count = 0;
        for (int p = 0; p < told.pleas.size(); p++) {
            for (int q = 0; q < told.pleas.size(); q++) {
                boolean rest = true;
                for (int r = 0; r < told.pleas.size(); r++) {
                    rest &= alone(item, r, q) <= alone(item, p, q) && alone(other, r, p) <= alone(other, q, p);
                }
                if (rest && count++ == 0) {
                    lying = new ArrayList<>(List.of(p, q));
                }
            }
        }
        return count;
    }

    public int bridge(int what) {
        int best = -1;
        int fewest = 9;
        for (int i = 0; i < told.lines.size(); i++) {
            if (!now.sticky.get(i)) {
                now.sticky.set(i, true);
                int count = Integer.bitCount(reach());
                now.sticky.set(i, false);
                if (count < fewest) {
                    best = i;
                    fewest = count;
                }
            }
        }
        return best == -1 ? -1 : what == 0 ? best : what == 1 ? fewest : -1;
    }

    public int forbid(int what) {
        int best = -1;
        int fewest = 7;
        for (int plea = 0; plea < told.pleas.size(); plea++) {
            int count = 0;
            for (int i : held()) {
                int all = now.pleas.get(i);
                count += judge(i, all - (all & 1 << plea)) > 0 ? 1 : 0;
            }
            if (count < fewest) {
                best = plea;
                fewest = count;
            }
        }
        return best == -1 ? -1 : what == 0 ? best : what == 1 ? fewest : -1;
    }

    public int swap(int what) {
        int most = Integer.bitCount(free());
        int first = -1;
        int second = -1;
        for (int i : held()) {
            for (int j : held()) {
                if (i >= j) {
                    continue;
                }
                State kept = now.copy();
                now.pleas.set(i, kept.pleas.get(j));
                now.pleas.set(j, kept.pleas.get(i));
                int count = Integer.bitCount(free());
                now = kept;
                if (count > most) {
                    most = count;
                    first = i;
                    second = j;
                }
            }
        }
        return first == -1 ? -1 : what == 0 ? first : what == 1 ? second : what == 2 ? most : -1;
    }

    public int advice(int item, int what) {
        if (!isHeld(item) || what < 0 || what > 1 || Integer.bitCount(now.pleas.get(item)) == 4) {
            return NO_VERDICT;
        }
        int best = -1;
        long greatest = Long.MIN_VALUE;
        for (int plea = 0; plea < told.pleas.size(); plea++) {
            int with = now.pleas.get(item) | 1 << plea;
            if (with != now.pleas.get(item) && judge(item, with) > greatest) {
                best = plea;
                greatest = judge(item, with);
            }
        }
        return best == -1 ? NO_VERDICT : what == 0 ? best : (int) greatest;
    }

    public int free() {
        int bits = 0;
        for (int i : held()) {
            bits += verdict(i) > 0 ? 1 << i : 0;
        }
        return bits;
    }

    public int reach() {
        if (now.at < 0) {
            return 0;
        }
        List<Integer> queue = new ArrayList<>(List.of(now.at));
        for (int i = 0; i < queue.size(); i++) {
            for (int k = 0; k < told.knots.size(); k++) {
                if (next(queue.get(i), k, false) && !queue.contains(k)) {
                    queue.add(k);
                }
            }
        }
        int bits = 0;
        for (int k : queue) {
            bits += 1 << k;
        }
        return bits;
    }

    public int fashion() {
        int best = -1;
        int most = -1;
        for (int plea = 0; plea < told.pleas.size(); plea++) {
            int count = 0;
            for (int i : held()) {
                count += (now.pleas.get(i) & 1 << plea) == 0 ? 0 : 1;
            }
            if (count > most) {
                best = plea;
                most = count;
            }
        }
        return best;
    }

    public int likeliest() {
        int best = -1;
        for (int i : held()) {
            best = best == -1 || verdict(i) > verdict(best) ? i : best;
        }
        return best;
    }

    public int loophole(int item) {
        if (!isHeld(item)) {
            return -1;
        }
        int hour = now.hour;
        int found = -1;
        for (now.hour = 0; now.hour < 100 && found == -1; now.hour++) {
            found = verdict(item) > 0 ? now.hour : -1;
        }
        now.hour = hour;
        return found;
    }

    public int precedent(int n) {
        if (n < 0 || n > 99) {
            return -1;
        }
        State kept = now.copy();
        for (int i = 0; i < told.cases.size(); i++) {
            now.before.set(i, n);
        }
        int count = Integer.bitCount(free());
        now = kept;
        return count;
    }

    public int odds(int n, int part) {
        if (n < 0 || n > 4 || part < 0 || part > 1) {
            return -1;
        }
        long upper = 1;
        long lower = 1;
        for (int i = 0; i < n; i++) {
            upper *= 100 - (told.back == null ? 0 : told.back);
            lower *= 100;
        }
        for (long d : new long[] {2, 5, 3, 7, 11}) {
            while (upper % d == 0 && lower % d == 0 && lower > 1) {
                upper /= d;
                lower /= d;
            }
        }
        return (int) (part == 0 ? upper : lower);
    }

    public int lies(int i) {
        return i < 0 || i >= lying.size() ? -1 : lying.get(i);
    }

    public int heard(int item, int verdict, boolean is) {
        if (!anyCase(item) || Math.abs((long) verdict) > 9999 || heards.size() == 30) {
            return -1;
        }
        heards.add(new Heard(item, verdict, is, time, new int[] {Integer.MAX_VALUE}));
        return heards.size() - 1;
    }

    public boolean untell(int heard) {
        if (heard < 0 || heard >= heards.size() || heards.get(heard).untold[0] != Integer.MAX_VALUE) {
            return false;
        }
        heards.get(heard).untold[0] = time;
        return true;
    }

    public int later(int by) {
        if (by < 0 || by > 1000 || time + by > 100000) {
            return -1;
        }
        time += by;
        return time;
    }

    private int first(int item, int strong) {
        int pleas = told.pleads.get(item);
        int sum = 0;
        for (int i = 0; i < told.pleas.size(); i++) {
            if ((pleas & 1 << i) != 0) {
                sum += i == told.pleas.size() - 1 ? strong : told.strong.get(i);
            }
        }
        int kin = -1;
        for (int knot : told.where) {
            kin += knot == told.where.get(item) ? 1 : 0;
        }
        return law(new Given(sum, Integer.bitCount(pleas), 0, 0, kin, 0));
    }

    private List<Integer> fitting(int k) {
        List<Integer> list = new ArrayList<>();
        for (int strong = 0; strong <= 30 && !told.pleas.isEmpty(); strong++) {
            boolean fits = true;
            for (Heard heard : heards) {
                boolean untold = heard.untold[0] != Integer.MAX_VALUE && heard.untold[0] <= k;
                if (heard.told <= k && !untold) {
                    fits &= heard.is ? first(heard.item, strong) >= heard.verdict : first(heard.item, strong) < heard.verdict;
                }
            }
            if (fits) {
                list.add(strong);
            }
        }
        return list;
    }

    public int fits(int k) {
        return fitting(k).size();
    }

    public int sure(int what, int k) {
        List<Integer> list = fitting(k);
        return list.isEmpty() || what < 0 || what > 1 ? -1 : list.get(what == 0 ? 0 : list.size() - 1);
    }

    public int ask(int what, int k) {
        int best = -1;
        int fewest = 99;
        List<Integer> list = fitting(k);
        for (int i = 0; i < told.cases.size() && !list.isEmpty(); i++) {
            int[] parts = new int[3];
            for (int strong : list) {
                parts[1 + Integer.compare(first(i, strong), 0)]++;
            }
            Arrays.sort(parts);
            if (parts[2] < fewest) {
                best = i;
                fewest = parts[2];
            }
        }
        return best == -1 ? -1 : what == 0 ? best : what == 1 ? fewest : -1;
    }

    public int image(int box) {
        if (box < 0 || box > 2) {
            return -1;
        }
        boxes[box] = now.copy();
        return now.hour;
    }

    public int restore(int box) {
        if (box < 0 || box > 2 || boxes[box] == null) {
            return -1;
        }
        now = boxes[box].copy();
        past.clear();
        future.clear();
        return now.hour;
    }

    public int about(int what) {
        int sticky = 0;
        for (int i = 0; i < now.sticky.size(); i++) {
            sticky += now.sticky.get(i) ? 1 << i : 0;
        }
        int[] answers = {told.cases.size(), told.knots.size(), told.lines.size(), told.pleas.size(), now.at, now.hour,
            now.heard ? 1 : 0, now.seed, past.size(), future.size(), heards.size(), time, tape.length(), told.units,
            lying.size(), sticky};
        return what < 0 || what >= answers.length ? -1 : answers[what];
    }
}
