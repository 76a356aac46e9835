import java.math.BigInteger;
import java.nio.charset.StandardCharsets;
import java.util.ArrayDeque;
import java.util.ArrayList;
import java.util.Arrays;
import java.util.Deque;
import java.util.List;
import java.util.function.Consumer;

/** The document once more, written for plainness and not for speed: what ModelTest holds TamerState against. */
public final class Model {
    /** What an image keeps. */
    private static final class State {
        List<int[]> provinces = new ArrayList<>(); // hunger, temper, tub
        List<int[]> tamers = new ArrayList<>(); // nerve, meat, arms
        int[][] memory = new int[4][6];
        boolean[][] feud = new boolean[6][6];
        List<int[]> done = new ArrayList<>(); // day, tamer, province, did
        int[] terms = {0, 1, 0};
        List<List<Text.Clause>> laws = new ArrayList<>();
        int force = -1;

        State copy() {
            State c = new State();
            provinces.forEach(p -> c.provinces.add(p.clone()));
            tamers.forEach(t -> c.tamers.add(t.clone()));
            done.forEach(d -> c.done.add(d.clone()));
            for (int t = 0; t < 4; t++) {
                c.memory[t] = memory[t].clone();
            }
            for (int p = 0; p < 6; p++) {
                c.feud[p] = feud[p].clone();
            }
            c.terms = terms.clone();
            c.laws.addAll(laws);
            c.force = force;
            return c;
        }

        boolean p(int province) {
            return province >= 0 && province < provinces.size();
        }

        boolean t(int tamer) {
            return tamer >= 0 && tamer < tamers.size();
        }

        boolean free(int tub) {
            return provinces.stream().noneMatch(p -> p[2] == tub);
        }

        List<Text.Clause> law() {
            return force < 0 ? List.of() : laws.get(force);
        }

        Long last(String kind, int t, int p) {
            Long told = null;
            for (Text.Clause c : law()) {
                if (c.kind.equals(kind)) {
                    Long now = c.told((word, which) -> word(word, t, p));
                    told = now == null ? told : now;
                }
            }
            return told;
        }

        long word(String word, int t, int p) {
            switch (word) {
                case "tamer": return t;
                case "province": return p;
                case "hunger": return p < 0 ? -1 : provinces.get(p)[0];
                case "temper": return p < 0 ? -1 : provinces.get(p)[1];
                case "tub": return p < 0 ? -1 : provinces.get(p)[2];
                case "memory": return p < 0 || t < 0 ? -1 : memory[t][p];
                case "nerve": return t < 0 ? -1 : tamers.get(t)[0];
                case "meat": return t < 0 ? -1 : tamers.get(t)[1];
                case "day": return terms[0];
                default: return terms[2];
            }
        }

        int angers(int t, int p) {
            Long told = last("angers", t, p);
            return told != null ? clamp(told, 30)
                : Math.max(0, provinces.get(p)[0] + provinces.get(p)[1] - memory[t][p]);
        }

        int hungers(int p) {
            Long told = last("hungers", -1, p);
            return told != null ? clamp(told, 9) : 1;
        }

        int paid(int t) {
            Long told = last("pays", t, -1);
            return told != null ? clamp(told, 99) : 5;
        }

        boolean barred(int t, int p) {
            return last("bars", t, p) != null;
        }

        boolean loyal(int t, int p) {
            return angers(t, p) <= tamers.get(t)[0];
        }

        int would(int t, int p) {
            int angers = angers(t, p);
            int nerve = tamers.get(t)[0];
            return angers <= nerve ? 2 : angers <= nerve + 3 ? 1 : 0;
        }

        int crack(int t, int p) {
            int did = would(t, p);
            int[] it = provinces.get(p);
            if (did == 0) {
                tamers.get(t)[2]--;
                it[0] = Math.max(0, it[0] - 2);
                return did;
            }
            for (int[] other : provinces) {
                if (other[2] == (it[2] + 1) % 8 || (other[2] + 1) % 8 == it[2]) {
                    other[1] = clamp(other[1] + (did == 2 ? -1 : 1), 9);
                }
            }
            if (did == 2) {
                it[0] = Math.min(9, it[0] + 1);
            } else {
                it[1] = Math.min(9, it[1] + 1);
            }
            return did;
        }

        void fed(int t, int p) {
            provinces.get(p)[0] = Math.max(0, provinces.get(p)[0] - 3);
            memory[t][p] = Math.min(9, memory[t][p] + 1);
        }

        void day() {
            State ahead = copy();
            for (int p = 0; p < provinces.size(); p++) {
                provinces.get(p)[0] = Math.min(9, provinces.get(p)[0] + ahead.hungers(p));
            }
            for (int t = 0; t < tamers.size(); t++) {
                tamers.get(t)[1] = Math.min(99, tamers.get(t)[1] + ahead.paid(t));
            }
            terms[0]++;
        }
    }

    private static final class Kept {
        final State state;
        final int kind;

        Kept(State state, int kind) {
            this.state = state;
            this.kind = kind;
        }
    }

    private State s = new State();
    private final State[] images = new State[2];
    private byte[] tape = new byte[0];
    private int saucers;
    private int fault = -1;
    private int stopped = -1;
    private int status;
    private final int[] refused = new int[7];
    private Deque<Kept> kept = new ArrayDeque<>();
    private State drawn = new State();
    private int ran;
    private int latest;

    private static int clamp(long value, int top) {
        return (int) Math.max(0, Math.min(top, value));
    }

    private static boolean in(int value, int low, int high) {
        return value >= low && value <= high;
    }

    private int told(int answer, boolean is) {
        status = is ? answer : 0;
        if (is) {
            refused[-answer]++;
        }
        return answer;
    }

    private int no(int by) {
        return told(by, true);
    }

    private int yes(int answer) {
        return told(answer, false);
    }

    public int province(int hunger, int temper, int tub) {
        if (!in(hunger, 0, 9) || !in(temper, 0, 9) || !in(tub, 0, 7)) {
            return no(-1);
        }
        if (!s.free(tub)) {
            return no(-3);
        }
        if (s.provinces.size() == 6) {
            return no(-5);
        }
        s.provinces.add(new int[] {hunger, temper, tub});
        kept.clear();
        return yes(s.provinces.size() - 1);
    }

    public int of(int p, int what) {
        if (!s.p(p) || !in(what, 0, 4)) {
            return -1;
        }
        if (what < 3) {
            return s.provinces.get(p)[what];
        }
        if (what == 3) {
            return s.hungers(p);
        }
        int bits = 0;
        for (int q = 0; q < 6; q++) {
            bits += s.feud[p][q] ? 1 << q : 0;
        }
        return bits;
    }

    public int tamer(int nerve, int meat) {
        if (!in(nerve, 0, 20) || !in(meat, 0, 99)) {
            return no(-1);
        }
        if (s.tamers.size() == 4) {
            return no(-5);
        }
        s.tamers.add(new int[] {nerve, meat, 2});
        kept.clear();
        return yes(s.tamers.size() - 1);
    }

    public int at(int t, int what) {
        if (!s.t(t) || !in(what, 0, 3)) {
            return -1;
        }
        return what == 3 ? s.paid(t) : s.tamers.get(t)[what];
    }

    public int asks(int t, int p, int what) {
        if (!s.t(t) || !s.p(p) || !in(what, 0, 4)) {
            return -1;
        }
        int[] all = {s.memory[t][p], s.angers(t, p), s.barred(t, p) ? 1 : 0, s.loyal(t, p) ? 1 : 0, s.would(t, p)};
        return all[what];
    }

    public int feud(int one, int other, int is) {
        if (one == other || !in(is, 0, 1)) {
            return no(-1);
        }
        if (!s.p(one) || !s.p(other)) {
            return no(-2);
        }
        int was = s.feud[one][other] ? 1 : 0;
        s.feud[one][other] = is == 1;
        s.feud[other][one] = is == 1;
        return yes(was);
    }

    public int terms(int what, int value) {
        if (!in(what, 0, 2) || !in(value, 0, new int[] {999, 10, 9}[what])) {
            return no(-1);
        }
        int was = s.terms[what];
        s.terms[what] = value;
        kept.clear();
        return yes(was);
    }

    public int feed(int a, int b, int c, int d, int e) {
        if (tape.length + 20 > 400) {
            return -1;
        }
        java.nio.ByteBuffer more = java.nio.ByteBuffer.allocate(tape.length + 20);
        more.put(tape).putInt(a).putInt(b).putInt(c).putInt(d).putInt(e);
        tape = more.array();
        return tape.length;
    }

    public int end(int n) {
        if (n < 0 || n > tape.length) {
            return -1;
        }
        tape = Arrays.copyOf(tape, n);
        return n;
    }

    public int row() {
        if (tape.length == 0) {
            return no(-6);
        }
        byte[] bytes = tape;
        tape = new byte[0];
        kept.clear();
        saucers = 0;
        int came = 0;
        for (int i = 0; i < bytes.length; i += 3) {
            boolean whole = i + 2 < bytes.length && in(bytes[i], 0, 9) && in(bytes[i + 1], 0, 9) && in(bytes[i + 2], 0, 7);
            if (whole && s.free(bytes[i + 2]) && s.provinces.size() < 6) {
                s.provinces.add(new int[] {bytes[i], bytes[i + 1], bytes[i + 2]});
                came++;
            } else {
                saucers++;
            }
        }
        return yes(came);
    }

    public int saucers() {
        return saucers;
    }

    private List<Text.Clause> readTape(boolean orders) {
        String text = new String(tape, StandardCharsets.ISO_8859_1);
        tape = new byte[0];
        try {
            List<Text.Clause> read = Text.read(text, orders);
            fault = -1;
            return read;
        } catch (Text.Fault at) {
            fault = at.place;
            return null;
        }
    }

    public int law() {
        if (s.laws.size() == 6) {
            tape = new byte[0];
            return no(-5);
        }
        List<Text.Clause> law = readTape(false);
        if (law == null) {
            return no(-6);
        }
        s.laws.add(law);
        return yes(s.laws.size() - 1);
    }

    private long orderWord(String word, int which) {
        switch (word) {
            case "day": return s.terms[0];
            case "done": return ran;
            case "latest": return latest;
            case "hunger": return s.p(which) ? s.provinces.get(which)[0] : -1;
            case "temper": return s.p(which) ? s.provinces.get(which)[1] : -1;
            case "meat": return s.t(which) ? s.tamers.get(which)[1] : -1;
            default: return s.t(which) ? s.tamers.get(which)[2] : -1;
        }
    }

    public int orders() {
        stopped = -1;
        List<Text.Clause> all = readTape(true);
        if (all == null) {
            return no(-6);
        }
        State ahead = s.copy();
        Deque<Kept> keptAhead = new ArrayDeque<>(kept);
        ran = 0;
        latest = -1;
        for (int c = 0; c < all.size(); c++) {
            for (int k = 0; k < all.get(c).times; k++) {
                if (!so(all.get(c))) {
                    continue;
                }
                if (!ordered(all.get(c))) {
                    s = ahead;
                    kept = keptAhead;
                    stopped = c;
                    return no(-3);
                }
                ran++;
            }
        }
        return yes(ran);
    }

    private boolean so(Text.Clause c) {
        try {
            return c.test == null || c.test.applyAsLong(this::orderWord) != 0;
        } catch (Text.Broken broken) {
            return false;
        }
    }

    private boolean ordered(Text.Clause c) {
        int a;
        int b;
        try {
            a = c.first == null ? 0 : (int) c.first.applyAsLong(this::orderWord);
            b = c.second == null ? 0 : (int) c.second.applyAsLong(this::orderWord);
        } catch (Text.Broken broken) {
            return false;
        }
        switch (c.kind) {
            case "crack":
                latest = doCrack(a, b);
                return latest >= 0;
            case "feed": return doMeat(a, b) >= 0;
            case "move": return doMove(a, b) >= 0;
            default: return doPass() >= 0;
        }
    }

    public int fault() {
        return fault;
    }

    public int stopped() {
        return stopped;
    }

    public int force(int law) {
        if (!in(law, -1, s.laws.size() - 1)) {
            return no(-2);
        }
        int was = s.force;
        s.force = law;
        return yes(was);
    }

    private void keep(int kind) {
        kept.addLast(new Kept(s.copy(), kind));
        if (kept.size() > 16) {
            kept.removeFirst();
        }
    }

    private int doCrack(int t, int p) {
        if (!s.t(t) || !s.p(p)) {
            return -2;
        }
        if (s.tamers.get(t)[2] == 0 || s.barred(t, p)) {
            return -3;
        }
        keep(0);
        return s.crack(t, p);
    }

    private int doMeat(int t, int p) {
        if (!s.t(t) || !s.p(p)) {
            return -2;
        }
        if (s.tamers.get(t)[1] == 0) {
            return -3;
        }
        keep(1);
        s.tamers.get(t)[1]--;
        s.fed(t, p);
        return s.provinces.get(p)[0];
    }

    private int doMove(int p, int tub) {
        if (!in(tub, 0, 7)) {
            return -1;
        }
        if (!s.p(p)) {
            return -2;
        }
        if (!s.free(tub)) {
            return -3;
        }
        keep(2);
        int was = s.provinces.get(p)[2];
        s.provinces.get(p)[2] = tub;
        return was;
    }

    private int doPass() {
        if (s.terms[0] == 999) {
            return -3;
        }
        keep(3);
        s.day();
        return s.terms[0];
    }

    private int either(int answer) {
        return answer < 0 ? no(answer) : yes(answer);
    }

    public int crack(int t, int p) {
        return either(doCrack(t, p));
    }

    public int meat(int t, int p) {
        return either(doMeat(t, p));
    }

    public int move(int p, int tub) {
        return either(doMove(p, tub));
    }

    public int pass() {
        return either(doPass());
    }

    public int undo() {
        if (kept.isEmpty()) {
            return no(-3);
        }
        Kept last = kept.removeLast();
        s.provinces = last.state.provinces;
        s.tamers = last.state.tamers;
        s.memory = last.state.memory;
        s.terms[0] = last.state.terms[0];
        return yes(last.kind);
    }

    /** All rows of a length of choices, the first one first. */
    private static void rows(int[] choices, int length, Consumer<int[]> each) {
        long all = 1;
        for (int i = 0; i < length; i++) {
            all *= choices.length;
        }
        for (long n = 0; n < all; n++) {
            int[] row = new int[length];
            long left = n;
            for (int i = length - 1; i >= 0; i--) {
                row[i] = choices[(int) (left % choices.length)];
                left /= choices.length;
            }
            each.accept(row);
        }
    }

    /** The best value that rows were given, with the first row of it. */
    private static final class Best {
        long value = Long.MIN_VALUE;
        int[] row;

        void offer(long offered, int[] its) {
            if (offered > value) {
                value = offered;
                row = its.clone();
            }
        }
    }

    private static int[] upTo(int n) {
        int[] all = new int[n];
        for (int i = 0; i < n; i++) {
            all[i] = i;
        }
        return all;
    }

    private static int[] andNone(int[] all) {
        int[] more = Arrays.copyOf(all, all.length + 1);
        more[all.length] = 100;
        return more;
    }

    public int show(int t, int bits, int i) {
        if (!s.t(t) || bits < 0 || bits >= 1 << s.provinces.size()) {
            return -1;
        }
        List<Integer> told = new ArrayList<>();
        for (int p = 0; p < 6; p++) {
            if ((bits >> p & 1) == 1) {
                told.add(p);
            }
        }
        Best best = new Best();
        orderings(told, new ArrayList<>(), row -> {
            State paper = s.copy();
            int balks = 0;
            for (int p : row) {
                if (paper.barred(t, p)) {
                    return;
                }
                int did = paper.crack(t, p);
                if (did == 0) {
                    return;
                }
                balks += did == 1 ? 1 : 0;
            }
            best.offer(-balks, row);
        });
        if (best.row == null) {
            return -1;
        }
        return i == -1 ? (int) -best.value : in(i, 0, best.row.length - 1) ? best.row[i] : -1;
    }

    private static void orderings(List<Integer> left, List<Integer> row, Consumer<int[]> each) {
        if (left.isEmpty()) {
            each.accept(row.stream().mapToInt(Integer::intValue).toArray());
        }
        for (Integer next : left) {
            List<Integer> rest = new ArrayList<>(left);
            rest.remove(next);
            List<Integer> longer = new ArrayList<>(row);
            longer.add(next);
            orderings(rest, longer, each);
        }
    }

    public int least(int t, int what) {
        if (!s.t(t) || !in(what, 0, s.provinces.size())) {
            return -1;
        }
        int sum = 0;
        for (int p = 0; p < s.provinces.size(); p++) {
            State paper = s.copy();
            int feedings = 0;
            while (feedings < 10 && !paper.loyal(t, p)) {
                paper.fed(t, p);
                feedings++;
            }
            if (what == p + 1) {
                return feedings == 10 ? -1 : feedings;
            }
            if (what == 0 && feedings == 10) {
                return -1;
            }
            sum += feedings;
        }
        return sum;
    }

    public int seats(int what) {
        int n = s.provinces.size();
        if (!in(what, 0, n)) {
            return -1;
        }
        Best best = new Best();
        rows(upTo(8), n, row -> {
            int moves = 0;
            for (int p = 0; p < n; p++) {
                moves += row[p] == s.provinces.get(p)[2] ? 0 : 1;
                for (int q = 0; q < p; q++) {
                    boolean beside = (row[p] + 1) % 8 == row[q] || (row[q] + 1) % 8 == row[p];
                    if (row[p] == row[q] || beside && s.feud[p][q]) {
                        return;
                    }
                }
            }
            best.offer(-moves, row);
        });
        if (best.row == null) {
            return -1;
        }
        return what == 0 ? (int) -best.value : best.row[what - 1];
    }

    public int done(int day, int t, int p, int did) {
        if (!in(day, 0, 99) || !in(did, 0, 2)) {
            return no(-1);
        }
        if (!s.t(t) || !s.p(p)) {
            return no(-2);
        }
        if (s.done.size() == 10) {
            return no(-5);
        }
        s.done.add(new int[] {day, t, p, did});
        return yes(s.done.size());
    }

    public int forget() {
        int was = s.done.size();
        s.done.clear();
        return was;
    }

    public int one(int i) {
        List<Integer> twos = new ArrayList<>();
        for (int p = 0; p < 6; p++) {
            for (int q = p + 1; q < 6; q++) {
                int same = 0;
                int unlike = 0;
                for (int[] a : s.done) {
                    for (int[] b : s.done) {
                        if (a[2] == p && b[2] == q && a[0] == b[0] && a[1] == b[1]) {
                            same += a[3] == b[3] ? 1 : 0;
                            unlike += a[3] == b[3] ? 0 : 1;
                        }
                    }
                }
                if (same > 0 && unlike == 0) {
                    twos.add(10 * p + q);
                }
            }
        }
        return i == -1 ? twos.size() : in(i, 0, twos.size() - 1) ? twos.get(i) : -1;
    }

    public int tempers(int p) {
        if (!s.p(p)) {
            return -1;
        }
        int bits = 0;
        for (int temper = 0; temper < 10; temper++) {
            State paper = s.copy();
            paper.provinces.get(p)[1] = temper;
            if (s.done.stream().filter(d -> d[2] == p).allMatch(d -> paper.would(d[1], p) == d[3])) {
                bits |= 1 << temper;
            }
        }
        return bits;
    }

    public int ask(int p, int what) {
        int bits = tempers(p);
        if (bits <= 0 || s.tamers.isEmpty() || !in(what, 0, 1)) {
            return -1;
        }
        Best best = new Best();
        for (int t = 0; t < s.tamers.size(); t++) {
            int[] alike = new int[3];
            for (int temper = 0; temper < 10; temper++) {
                State paper = s.copy();
                paper.provinces.get(p)[1] = temper;
                alike[paper.would(t, p)] += bits >> temper & 1;
            }
            best.offer(-Arrays.stream(alike).max().getAsInt(), new int[] {t});
        }
        return what == 0 ? best.row[0] : (int) -best.value;
    }

    public int governed(int what) {
        int n = s.provinces.size();
        if (!in(what, 0, n)) {
            return -1;
        }
        boolean[][] may = new boolean[4][6];
        for (int t = 0; t < s.tamers.size(); t++) {
            for (int p = 0; p < n; p++) {
                may[t][p] = s.loyal(t, p) && !s.barred(t, p);
            }
        }
        Best best = new Best();
        rows(andNone(upTo(s.tamers.size())), n, row -> {
            int[] loads = new int[4];
            int governed = 0;
            for (int p = 0; p < n; p++) {
                if (row[p] != 100) {
                    if (!may[row[p]][p] || ++loads[row[p]] > 2) {
                        return;
                    }
                    governed++;
                }
            }
            best.offer(governed, row);
        });
        return what == 0 ? (int) best.value : best.row[what - 1];
    }

    public int calmest(int p) {
        if (!s.p(p) || s.tamers.isEmpty()) {
            return -1;
        }
        Best best = new Best();
        for (int t = 0; t < s.tamers.size(); t++) {
            best.offer(-s.angers(t, p), new int[] {t});
        }
        return best.row[0];
    }

    public int cubs(int t, int n, int i) {
        if (!s.t(t) || !in(n, 0, 4) || !in(i, -1, n - 1)) {
            return -1;
        }
        Best best = new Best();
        rows(andNone(upTo(s.provinces.size())), n, row -> {
            State paper = s.copy();
            for (int fed : row) {
                if (fed != 100) {
                    paper.fed(t, fed);
                }
                paper.provinces.forEach(p -> p[0] = Math.min(9, p[0] + 1));
            }
            int loyal = 0;
            for (int p = 0; p < s.provinces.size(); p++) {
                loyal += paper.loyal(t, p) ? 1 : 0;
            }
            best.offer(loyal, row);
        });
        return i == -1 ? (int) best.value : best.row[i];
    }

    public long safe(int k, int n) {
        if (!in(k, 1, 20) || !in(n, 0, 99)) {
            return -1;
        }
        BigInteger ten = BigInteger.TEN;
        BigInteger thunder = BigInteger.valueOf(s.terms[1]);
        BigInteger[] now = new BigInteger[101];
        Arrays.fill(now, BigInteger.ZERO);
        now[0] = ten.pow(12);
        for (int day = 0; day < n; day++) {
            BigInteger[] then = new BigInteger[101];
            Arrays.fill(then, BigInteger.ZERO);
            for (int j = 0; j < 100; j++) {
                then[j] = then[j].add(now[j].multiply(ten.subtract(thunder)).divide(ten));
                then[j + 1] = then[j + 1].add(now[j].multiply(thunder).divide(ten));
            }
            now = then;
        }
        return Arrays.stream(now, 0, k).reduce(BigInteger.ZERO, BigInteger::add).longValueExact();
    }

    public int compare(int law, int t) {
        if (!in(law, -1, s.laws.size() - 1) || !s.t(t)) {
            return -1;
        }
        State paper = s.copy();
        paper.force = law;
        int loyal = 0;
        for (int p = 0; p < s.provinces.size(); p++) {
            loyal += paper.loyal(t, p) ? 1 : 0;
        }
        return loyal;
    }

    public int decades(int seed, int n) {
        if (!in(seed, 0, 1000000) || !in(n, 1, 60)) {
            return no(-1);
        }
        if (s.tamers.isEmpty() || s.provinces.isEmpty()) {
            return no(-3);
        }
        State paper = s.copy();
        long[] draws = new long[3];
        long at = seed;
        int bites = 0;
        for (int k = 0; k < n && paper.terms[0] != 999; k++) {
            int[] of = {s.tamers.size(), s.provinces.size(), 3};
            for (int d = 0; d < 3; d++) {
                at = (at * 1103 + 12345) % 1000003;
                draws[d] = at % of[d];
            }
            int t = (int) draws[0];
            int p = (int) draws[1];
            int[] tamer = paper.tamers.get(t);
            if (draws[2] == 0 && tamer[2] > 0 && !paper.barred(t, p)) {
                bites += paper.crack(t, p) == 0 ? 1 : 0;
            } else if (draws[2] == 1 && tamer[1] > 0) {
                tamer[1]--;
                paper.fed(t, p);
            }
            paper.day();
        }
        drawn = paper;
        return yes(bites);
    }

    public int drawn(int k, int what) {
        if (in(what, 0, 1) && drawn.p(k)) {
            return drawn.provinces.get(k)[what];
        }
        return in(what, 2, 3) && drawn.t(k) ? drawn.tamers.get(k)[what - 1] : -1;
    }

    public int image(int k) {
        if (!in(k, 0, 1)) {
            return no(-1);
        }
        images[k] = s.copy();
        return yes(0);
    }

    public int back(int k) {
        if (!in(k, 0, 1)) {
            return no(-1);
        }
        if (images[k] == null) {
            return no(-2);
        }
        s = images[k].copy();
        kept.clear();
        return yes(0);
    }

    public int count(int what) {
        int arms = s.tamers.stream().mapToInt(t -> t[2]).sum();
        int[] all = {s.provinces.size(), s.tamers.size(), arms, s.done.size(), s.laws.size(), kept.size(), tape.length,
            refused[1], refused[2], refused[3], refused[5], refused[6], s.force, s.terms[0], s.terms[1], s.terms[2]};
        return in(what, 0, 15) ? all[what] : -1;
    }

    public int status() {
        return status;
    }
}
