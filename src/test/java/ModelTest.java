import java.lang.reflect.Method;
import java.nio.charset.StandardCharsets;
import java.util.Arrays;
import java.util.HashMap;
import java.util.Map;
import java.util.Random;
import java.util.TreeMap;

/** Long runs of drawn calls, each answered by TamerState as by the Model. */
public final class ModelTest {
    private static final int CALLS = 512;

    private final Random random;
    private final TextMaker texts;
    private final TamerState real = new TamerState();
    private final Model model = new Model();
    private final StringBuilder told = new StringBuilder();
    private static final Map<String, Method> REAL = new HashMap<>();
    private static final Map<String, Method> MODEL = new HashMap<>();
    private static final Map<String, Map<Long, Integer>> SEEN = new TreeMap<>();
    private int calls;

    private ModelTest(long seed) {
        random = new Random(seed);
        texts = new TextMaker(random);
    }

    public static void main(String[] args) throws Exception {
        int runs = args.length > 0 ? Integer.parseInt(args[0]) : 400;
        int from = args.length > 1 ? Integer.parseInt(args[1]) : 0;
        for (Method method : TamerState.class.getDeclaredMethods()) {
            REAL.put(method.getName(), method);
        }
        for (Method method : Model.class.getDeclaredMethods()) {
            MODEL.put(method.getName(), method);
        }
        for (int seed = from; seed < from + runs; seed++) {
            ModelTest run = new ModelTest(seed);
            if (!run.goesAlike()) {
                System.out.println("ModelTest: seed " + seed + "\n" + run.told);
                System.exit(1);
            }
        }
        if (args.length > 2) {
            SEEN.forEach((name, answers) -> System.out.println(name + " " + answers));
        }
        System.out.println("ModelTest: " + runs + " runs alike");
    }

    private boolean goesAlike() throws Exception {
        boolean alike = true;
        int setUp = random.nextInt(5) == 0 ? 0 : 2 + random.nextInt(14);
        while (alike && calls < CALLS) {
            if (calls < setUp) {
                alike = random.nextInt(3) > 0 ? call("province", random.nextInt(10), random.nextInt(10), random.nextInt(8))
                    : call("tamer", random.nextInt(21), random.nextInt(20));
                continue;
            }
            int kind = random.nextInt(100);
            alike = kind < 6 ? text() : kind < 45 ? act() : kind < 94 ? asked() : rare();
            if (alike && random.nextInt(3) == 0) {
                alike = call("count", random.nextInt(18) - 1) && call("status");
            }
        }
        return alike;
    }

    private int near(int many) {
        return random.nextInt(12) == 0 ? random.nextInt(many + 4) - 2 : random.nextInt(many);
    }

    private int province() {
        int many = model.count(0);
        return many == 0 || random.nextInt(20) == 0 ? random.nextInt(9) - 1 : random.nextInt(many);
    }

    private int tamer() {
        int many = model.count(1);
        return many == 0 || random.nextInt(20) == 0 ? random.nextInt(7) - 1 : random.nextInt(many);
    }

    private int wild(int many) {
        int[] odd = {-1, -2, many, many + 1, Integer.MAX_VALUE, Integer.MIN_VALUE, 1 << 20};
        return random.nextInt(10) == 0 ? odd[random.nextInt(odd.length)] : random.nextInt(many);
    }

    private boolean text() throws Exception {
        boolean orders = random.nextInt(3) > 0;
        boolean row = random.nextInt(12) == 0;
        byte[] bytes = texts.text(orders).getBytes(StandardCharsets.ISO_8859_1);
        if (row) {
            bytes = new byte[random.nextInt(12)];
            for (int i = 0; i < bytes.length; i++) {
                bytes[i] = (byte) (random.nextInt(15) == 0 ? random.nextInt(256) : random.nextInt(10));
            }
        }
        told.append("text: ").append(new String(bytes, StandardCharsets.ISO_8859_1)).append('\n');
        boolean alike = call("end", 0);
        for (int at = 0; at < bytes.length && alike; at += 20) {
            byte[] twenty = Arrays.copyOfRange(bytes, at, at + 20);
            java.nio.ByteBuffer ints = java.nio.ByteBuffer.wrap(twenty);
            alike = call("feed", ints.getInt(), ints.getInt(), ints.getInt(), ints.getInt(), ints.getInt());
        }
        alike = alike && call("end", bytes.length) && call(row ? "row" : orders ? "orders" : "law");
        alike = alike && call("fault") && call("stopped") && call("saucers");
        if (!orders && !row && alike) {
            alike = call("force", random.nextInt(5) == 0 ? near(8) - 1 : Math.max(0, model.count(4) - 1));
        }
        return alike && whole();
    }

    /** All that is seen of the state at once. */
    private boolean whole() throws Exception {
        boolean alike = true;
        for (int p = 0; p < model.count(0) && alike; p++) {
            alike = call("of", p, random.nextInt(5)) && call("asks", tamer(), p, random.nextInt(5));
        }
        for (int t = 0; t < model.count(1) && alike; t++) {
            alike = call("at", t, random.nextInt(4));
        }
        return alike && call("count", 5) && call("count", 13);
    }

    private boolean act() throws Exception {
        switch (random.nextInt(8)) {
            case 0:
            case 1:
                return call("crack", tamer(), province());
            case 2:
            case 3:
                return call("meat", tamer(), province());
            case 4:
                return call("move", province(), near(8));
            case 5:
                return call("pass");
            case 6:
                return call("undo") && whole();
            default:
                return random.nextInt(4) == 0 ? call("forget") : call("done", near(2), tamer(), province(), near(3));
        }
    }

    private boolean asked() throws Exception {
        switch (random.nextInt(17)) {
            case 0:
                return call("of", province(), wild(5));
            case 1:
                return call("at", tamer(), wild(4));
            case 2:
                return call("asks", tamer(), province(), wild(5));
            case 3:
                return call("show", tamer(), random.nextInt(10) == 0 ? wild(64) : random.nextInt(1 << model.count(0)),
                    random.nextInt(3) == 0 ? -1 : near(6));
            case 4:
                return call("least", tamer(), random.nextInt(3) == 0 ? 0 : wild(7));
            case 5:
                return random.nextInt(4) != 0 || call("seats", wild(7));
            case 6:
                return call("one", random.nextInt(3) == 0 ? -1 : wild(6));
            case 7:
                return call("tempers", province());
            case 8:
                return call("ask", province(), wild(2));
            case 9:
                return call("governed", wild(7));
            case 10:
                return call("calmest", province());
            case 11:
                return call("cubs", tamer(), wild(5), random.nextInt(3) == 0 ? -1 : wild(4));
            case 12:
                return call("safe", wild(21), wild(100));
            case 13:
                return call("compare", near(model.count(4) + 1) - 1, tamer());
            case 14:
                return call("decades", wild(1000001), wild(61));
            case 15:
                return call("drawn", wild(6), wild(4));
            default:
                return call("feud", province(), province(), random.nextInt(4) == 0 ? near(2) : 1);
        }
    }

    private boolean rare() throws Exception {
        switch (random.nextInt(14)) {
            case 0:
                return call("province", wild(10), wild(10), wild(8));
            case 1:
                return call("tamer", wild(21), wild(100));
            case 2:
            case 3:
                return call("terms", wild(3), wild(11));
            case 4:
                return call("terms", 0, 990 + random.nextInt(11));
            case 5:
            case 6:
                return call("force", near(model.count(4) + 1) - 1);
            case 7:
            case 8:
                return call("image", near(2));
            case 9:
            case 10:
                return call("back", near(2)) && whole();
            case 11:
                return call("forget");
            case 12:
                return call("end", wild(40));
            default:
                return call("feed", random.nextInt(), random.nextInt(), random.nextInt(), random.nextInt(), random.nextInt());
        }
    }

    private boolean call(String name, int... args) throws Exception {
        if (calls >= CALLS) {
            return true;
        }
        calls++;
        Object[] boxed = Arrays.stream(args).boxed().toArray();
        long due = ((Number) MODEL.get(name).invoke(model, boxed)).longValue();
        long got = ((Number) REAL.get(name).invoke(real, boxed)).longValue();
        SEEN.computeIfAbsent(name, n -> new TreeMap<>()).merge(Math.min(due, 30), 1, Integer::sum);
        told.append(name).append(Arrays.toString(args)).append(" = ").append(got);
        told.append(got == due ? "\n" : ", due is " + due + "\n");
        return got == due;
    }
}
