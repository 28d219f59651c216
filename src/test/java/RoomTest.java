import java.lang.management.ManagementFactory;
import java.lang.reflect.Method;
import java.util.List;
import java.util.Random;

/** No call throws, whatever its arguments, and calls make next to nothing anew. */
public final class RoomTest {
    private static final int[] EDGES = {Integer.MIN_VALUE, Integer.MIN_VALUE + 1, -1001, -2, -1, 0, 1, 2, 3, 4, 5, 6, 7, 8, 13,
        14, 15, 16, 29, 30, 31, 32, 33, 64, 99, 100, 999, 1000, 1001, 1600, 100000, Integer.MAX_VALUE};
    private static final String WEB = "knot a;knot b;knot c;knot d;knot e;knot f;knot g;knot h;line a b;line b c;line c d;"
            + "line d e;line e f;line f g;line g h;line h a sticky;line a c;line a d;plea p strong 3;plea q strong 20;"
            + "plea r strong 7;plea s strong 0;plea t strong 9;plea u strong 1;plea v strong 4;plea w strong 12;"
            + "case i at a pleads p;case j at b pleads q r;case k at c pleads s t u;case l at a pleads v w p q;"
            + "case m at h pleads w;case n at a pleads p u;back 60;draw 123;"
            + "law pleads*many-before*2+stays%(kin+1)-hour/3+(not(pleads>9)and many)-5-(hour=2)*3+1*1*1*1*1-1;";

    public static void main(String[] args) throws Exception {
        List<Method> methods = Check.face();
        anyArguments(methods);
        anyBytes();
        room();
        Check.finish();
    }

    private static void anyArguments(List<Method> methods) throws Exception {
        Random random = new Random(5);
        for (int run = 0; run < 400; run++) {
            WebCourt x = run % 5 == 0 ? new WebCourt() : Check.court(WEB);
            for (int i = 0; i < 500; i++) {
                Method method = methods.get(random.nextInt(methods.size()));
                if (method.getName().equals("web") && random.nextInt(20) > 0) {
                    continue;
                }
                Object[] arguments = new Object[method.getParameterCount()];
                for (int k = 0; k < arguments.length; k++) {
                    arguments[k] = EDGES[random.nextInt(EDGES.length)];
                }
                if (method.getName().equals("heard")) {
                    arguments[2] = random.nextBoolean();
                }
                method.invoke(x, arguments);
            }
            Check.due("a run of any arguments", true, true);
        }
    }

    private static void anyBytes() {
        Random random = new Random(6);
        String signs = "knotlieplacstrgbwdu  \n;;()<>=+-*/%0123456789";
        for (int run = 0; run < 3000; run++) {
            WebCourt x = new WebCourt();
            byte[] bytes = new byte[random.nextInt(1601)];
            for (int i = 0; i < bytes.length; i++) {
                bytes[i] = (byte) (run % 2 == 0 ? random.nextInt(256) : signs.charAt(random.nextInt(signs.length())));
            }
            if (run % 3 == 0) {
                byte[] web = ("law " + "not(".repeat(400)).getBytes();
                System.arraycopy(web, 0, bytes, 0, Math.min(bytes.length, web.length));
            }
            Check.feed(x, bytes);
            int cases = x.web();
            int place = x.fault(1);
            boolean right = cases == WebCourt.NONE ? place >= 0 && place <= bytes.length : x.fault(0) == 0;
            Check.due("any bytes, fault " + x.fault(0) + " at " + place, right, true);
        }
    }

    private static void room() {
        com.sun.management.ThreadMXBean bean = (com.sun.management.ThreadMXBean) ManagementFactory.getThreadMXBean();
        long thread = Thread.currentThread().getId();
        askAll(new WebCourt());
        long before = bean.getThreadAllocatedBytes(thread);
        WebCourt x = new WebCourt();
        long made = bean.getThreadAllocatedBytes(thread) - before;
        Check.due("bytes of a new object: " + made, made < 40000, true);
        Check.feed(x, WEB);
        x.web();
        before = bean.getThreadAllocatedBytes(thread);
        for (int i = 0; i < 10; i++) {
            askAll(x);
        }
        made = bean.getThreadAllocatedBytes(thread) - before;
        Check.due("bytes of 460 calls: " + made, made < 4000, true);
    }

    /** Each call once, as dear as it can be. */
    private static int askAll(WebCourt x) {
        int sum = x.feed(1, 2, 3, 4, 5) + x.end(5) + x.web() + x.fault(0) + x.knot(0, 2) + x.plea(0) + x.item(0, 2);
        sum += x.verdict(3) + x.hour(0) + x.hear(0) + x.plead(0, 5) + x.drop(0, 5) + x.grab(0) + x.spin(3);
        sum += x.undo() && x.redo() ? 1 : 0;
        for (int i = 0; i < 2; i++) {
            sum += x.shortest(0, i) + x.honest(3, i) + x.contrary(i) + x.bridge(i) + x.forbid(i) + x.swap(i);
            sum += x.advice(0, i) + x.sure(i, 3) + x.ask(i, 3);
        }
        sum += x.way(7) + x.round() + x.term(30) + x.leave(0) + x.hopeless() + x.rivals(0, 1) + x.free() + x.reach();
        sum += x.fashion() + x.likeliest() + x.loophole(0) + x.precedent(3) + x.odds(4, 1) + x.lies(0);
        sum += x.heard(0, 3, true) + x.later(1) + x.fits(2) + x.image(0) + x.restore(0) + x.about(3);
        return sum + (x.untell(0) ? 1 : 0);
    }
}
