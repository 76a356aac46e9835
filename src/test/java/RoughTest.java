import java.lang.management.ManagementFactory;
import java.lang.reflect.Method;
import java.lang.reflect.Modifier;
import java.util.Arrays;
import java.util.Comparator;
import java.util.Random;

/** No call throws or takes long, whatever its arguments, and what a long run makes stays small. */
public final class RoughTest {
    private static final int[] ODD = {Integer.MIN_VALUE, -1000, -7, -3, -2, -1, 0, 1, 2, 3, 4, 5, 6, 7, 8, 9, 10, 15, 20, 31,
        32, 60, 61, 63, 64, 99, 100, 255, 399, 400, 401, 999, 1000, 1000000, 1000001, Integer.MAX_VALUE};

    public static void main(String[] args) throws Exception {
        Check check = new Check("RoughTest");
        oddCalls(check);
        oddTexts(check);
        room(check);
        check.close();
    }

    private static TamerState fullRing() {
        TamerState x = new TamerState();
        for (int p = 0; p < 6; p++) {
            x.province(p, 9 - p, 7 - p);
            x.feud(p, p - 1, 1);
        }
        for (int t = 0; t < 4; t++) {
            x.tamer(4 * t, 20 * t);
        }
        Check.forced(x, "angers hunger*temper/[memory+1]%[nerve+tub] if day/mood<9 or not(meat=3);bars if tamer=province;"
            + "hungers day%3;pays 30-meat;angers 1000*1000*1000*hunger if mood=7");
        for (int d = 0; d < 8; d++) {
            x.done(d % 3, d % 4, d % 6, d % 3);
        }
        return x;
    }

    private static void oddCalls(Check check) {
        Random random = new Random(7);
        Method[] methods = face();
        for (int round = 0; round < 200; round++) {
            TamerState x = round % 2 == 0 ? fullRing() : new TamerState();
            for (int n = 0; n < 400; n++) {
                Method method = methods[random.nextInt(methods.length)];
                Object[] args = new Object[method.getParameterCount()];
                for (int a = 0; a < args.length; a++) {
                    args[a] = ODD[random.nextInt(ODD.length)];
                }
                check.holds(method.getName() + Arrays.toString(args), answers(x, method, args));
            }
        }
    }

    /** By name, since the machine tells them in any order and each run must be the same. */
    private static Method[] face() {
        return Arrays.stream(TamerState.class.getDeclaredMethods()).filter(m -> Modifier.isPublic(m.getModifiers()))
            .sorted(Comparator.comparing(Method::getName)).toArray(Method[]::new);
    }

    private static boolean answers(TamerState x, Method method, Object[] args) {
        try {
            method.invoke(x, args);
            return true;
        } catch (ReflectiveOperationException thrown) {
            thrown.printStackTrace(System.out);
            return false;
        }
    }

    private static void oddTexts(Check check) {
        Random random = new Random(11);
        String signs = "()[]+-*/%<>=; 0123456789abcdeinotr";
        for (int round = 0; round < 2000; round++) {
            byte[] bytes = new byte[random.nextInt(401)];
            for (int i = 0; i < bytes.length; i++) {
                bytes[i] = (byte) (round % 2 == 0 ? random.nextInt(256) : signs.charAt(random.nextInt(signs.length())));
            }
            TamerState x = new TamerState();
            Check.writeBytes(x, bytes);
            int answer = round % 4 < 2 ? x.law() : x.orders();
            check.due("such a text is wrong", answer, -6);
            check.holds("fault() is within the text", x.fault() >= 0 && x.fault() <= bytes.length);
        }
        String[] deep = {"angers " + "[".repeat(393), "bars if " + "(".repeat(392), "bars if " + "not ".repeat(98),
            "angers 1" + "+1".repeat(196), "bars" + ";bars".repeat(79), "pays " + "1".repeat(395)};
        int[] faults = {15, 16, 400, 107, 60, 5};
        for (int i = 0; i < deep.length; i++) {
            TamerState x = new TamerState();
            check.due("law of " + deep[i], Check.law(x, deep[i]), -6);
            check.due("fault of " + deep[i], x.fault(), faults[i]);
        }
    }

    /** The dearest calls, as many as one object takes: what they make is far below the room of one run. */
    private static void room(Check check) {
        com.sun.management.ThreadMXBean bean = (com.sun.management.ThreadMXBean) ManagementFactory.getThreadMXBean();
        long id = Thread.currentThread().getId();
        fullRing();
        long ahead = bean.getThreadAllocatedBytes(id);
        TamerState made = new TamerState();
        long object = bean.getThreadAllocatedBytes(id) - ahead;
        check.holds("an object takes " + object + " bytes", made.status() == 0 && object < 40000);
        TamerState x = fullRing();
        ahead = bean.getThreadAllocatedBytes(id);
        for (int n = 0; n < 38; n++) {
            x.show(3, 63, -1);
            x.least(3, 0);
            x.seats(0);
            x.governed(0);
            x.cubs(3, 4, -1);
            x.decades(n, 60);
            x.ask(0, 0);
            x.safe(20, 99);
            x.image(n % 2);
            x.back(n % 2);
            x.pass();
            x.undo();
        }
        long run = bean.getThreadAllocatedBytes(id) - ahead;
        check.holds("456 calls make " + run + " bytes", run < 10000);
    }
}
