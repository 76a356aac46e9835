import java.util.Arrays;

/** A circus state: provinces on tubs in a ring, ruled by whoever can stand there. */
public final class TamerState {
    public static final int NONE = -1;

    private static final int WRONG_NUMBER = -1;
    private static final int NO_SUCH = -2;
    private static final int CANNOT_BE = -3;
    private static final int NO_ROOM = -5;
    private static final int WRONG_TEXT = -6;
    private static final int[] REFUSALS = {WRONG_NUMBER, NO_SUCH, CANNOT_BE, NO_ROOM, WRONG_TEXT};

    private static final int TUBS = 8;
    private static final int MAX_PROVINCES = 6;
    private static final int MAX_TAMERS = 4;
    private static final int MAX_LAWS = 6;
    private static final int MAX_DEEDS = 10;
    private static final int MAX_TAPE = 400;
    private static final int MAX_CLAUSES = 12;
    private static final int MAX_PARTS = 50;
    private static final int MAX_BRACKETS = 8;
    private static final int MAX_NUMBER = 1000;
    private static final int MAX_TIMES = 20;
    private static final int MAX_UNDO = 16;
    private static final int MAX_FEEDINGS = 9;
    private static final int MAX_CUB_DAYS = 4;
    private static final int IMAGES = 2;

    private static final int TOP_HUNGER = 9;
    private static final int TOP_TEMPER = 9;
    private static final int TOP_MEMORY = 9;
    private static final int TOP_NERVE = 20;
    private static final int TOP_MEAT = 99;
    private static final int TOP_ANGER = 30;
    private static final int FIRST_ARMS = 2;
    private static final int LAST_DAY = 999;
    private static final int LAST_DEED_DAY = 99;
    private static final int[] TOP_TERMS = {LAST_DAY, 10, 9};

    private static final int BITES = 0;
    private static final int BALKS = 1;
    private static final int JUMPS = 2;
    private static final int NOBODY = 100;

    private static final int ACT_CRACK = 0;
    private static final int ACT_FEED = 1;
    private static final int ACT_MOVE = 2;
    private static final int ACT_PASS = 3;

    private static final int LAW_ANGERS = 0;
    private static final int LAW_HUNGERS = 1;
    private static final int LAW_PAYS = 2;
    private static final int LAW_BARS = 3;

    private static final int LAW_WORDS = 10;
    private static final int ORDER_WORDS = 23;
    private static final int WORD_DAY = 0;
    private static final int WORD_DONE = 1;
    private static final int WORD_LATEST = 2;
    private static final int WORD_HUNGER = 3;
    private static final int WORD_TEMPER = 9;
    private static final int WORD_MEAT = 15;
    private static final int WORD_ARMS = 19;

    private static final int MAX_SEED = 1000000;
    private static final int MAX_DECADES = 60;
    private static final long WHOLE = 1000000000000L;
    private static final int MAX_THUNDERS = 20;
    private static final int MAX_SAFE_DAYS = 99;

    private final World now = new World();
    private final World[] images = new World[IMAGES];
    private final Tape tape = new Tape();
    private final Parser parser = new Parser(tape);
    private final Rules rules = new Rules();
    private final Plans plans = new Plans(rules);
    private final Log log = new Log();
    private final Log logAhead = new Log();
    private final Scene sceneAhead = new Scene();
    private final Scene paper = new Scene();
    private final Scene drawnScene = new Scene();
    private final int[] orderWords = new int[ORDER_WORDS];
    private final long[] chances = new long[MAX_THUNDERS];
    private final int[] alike = new int[JUMPS + 1];
    private final int[] refusedBy = new int[REFUSALS.length];
    private int saucerCount;
    private int stoppedAt = NONE;
    private int latestStatus;

    public TamerState() {
    }

    public int province(int hunger, int temper, int tub) {
        if (!fitsProvince(hunger, temper, tub)) {
            return refused(WRONG_NUMBER);
        }
        if (now.scene.onTub(tub) != NONE) {
            return refused(CANNOT_BE);
        }
        if (now.scene.provinces() >= MAX_PROVINCES) {
            return refused(NO_ROOM);
        }
        log.clear();
        return answered(now.scene.addProvince(hunger, temper, tub));
    }

    public int of(int province, int what) {
        Scene scene = now.scene;
        if (!scene.hasProvince(province)) {
            return NONE;
        }
        switch (what) {
            case 0:
                return scene.get(Scene.HUNGER, province);
            case 1:
                return scene.get(Scene.TEMPER, province);
            case 2:
                return scene.get(Scene.TUB, province);
            case 3:
                return rules.growth(scene, now.lawInForce(), province);
            case 4:
                return now.feudsOf(province);
            default:
                return NONE;
        }
    }

    public int tamer(int nerve, int meat) {
        if (!within(nerve, TOP_NERVE) || !within(meat, TOP_MEAT)) {
            return refused(WRONG_NUMBER);
        }
        if (now.scene.tamers() >= MAX_TAMERS) {
            return refused(NO_ROOM);
        }
        log.clear();
        return answered(now.scene.addTamer(nerve, meat));
    }

    public int at(int tamer, int what) {
        Scene scene = now.scene;
        if (!scene.hasTamer(tamer)) {
            return NONE;
        }
        switch (what) {
            case 0:
                return scene.get(Scene.NERVE, tamer);
            case 1:
                return scene.get(Scene.MEAT, tamer);
            case 2:
                return scene.get(Scene.ARMS, tamer);
            case 3:
                return rules.wage(scene, now.lawInForce(), tamer);
            default:
                return NONE;
        }
    }

    public int asks(int tamer, int province, int what) {
        Scene scene = now.scene;
        if (!scene.hasTamer(tamer) || !scene.hasProvince(province)) {
            return NONE;
        }
        Program law = now.lawInForce();
        switch (what) {
            case 0:
                return scene.memory(tamer, province);
            case 1:
                return rules.anger(scene, law, tamer, province);
            case 2:
                return rules.barred(scene, law, tamer, province) ? 1 : 0;
            case 3:
                return rules.loyal(scene, law, tamer, province) ? 1 : 0;
            case 4:
                return rules.reaction(scene, law, tamer, province);
            default:
                return NONE;
        }
    }

    public int feud(int one, int other, int is) {
        if (one == other || !within(is, 1)) {
            return refused(WRONG_NUMBER);
        }
        if (!now.scene.hasProvince(one) || !now.scene.hasProvince(other)) {
            return refused(NO_SUCH);
        }
        return answered(now.setFeud(one, other, is));
    }

    public int terms(int what, int value) {
        if (!within(what, TOP_TERMS.length - 1) || !within(value, TOP_TERMS[what])) {
            return refused(WRONG_NUMBER);
        }
        log.clear();
        int was = now.scene.get(Scene.TERMS, what);
        now.scene.set(Scene.TERMS, what, value);
        return answered(was);
    }

    public int feed(int a, int b, int c, int d, int e) {
        if (!tape.hasRoomFor(20)) {
            return NONE;
        }
        tape.add(a);
        tape.add(b);
        tape.add(c);
        tape.add(d);
        tape.add(e);
        return tape.length();
    }

    public int end(int n) {
        return tape.cut(n) ? n : NONE;
    }

    public int row() {
        int bytes = tape.length();
        if (bytes == 0) {
            return refused(WRONG_TEXT);
        }
        log.clear();
        saucerCount = 0;
        int came = 0;
        for (int i = 0; i < bytes; i += 3) {
            if (rowProvince(i)) {
                came++;
            } else {
                saucerCount++;
            }
        }
        tape.clear();
        return answered(came);
    }

    public int saucers() {
        return saucerCount;
    }

    public int law() {
        if (now.lawCount >= MAX_LAWS) {
            tape.clear();
            return refused(NO_ROOM);
        }
        if (!parser.reads(false)) {
            return refused(WRONG_TEXT);
        }
        return answered(now.addLaw(parser.read().trimmed()));
    }

    public int orders() {
        stoppedAt = NONE;
        if (!parser.reads(true)) {
            return refused(WRONG_TEXT);
        }
        sceneAhead.copyFrom(now.scene);
        logAhead.copyFrom(log);
        orderWords[WORD_DONE] = 0;
        orderWords[WORD_LATEST] = NONE;
        Program orders = parser.read();
        for (int c = 0; c < orders.clauses(); c++) {
            for (int k = 0; k < orders.part(c, Program.TIMES); k++) {
                setOrderWords();
                if (!rules.testHolds(orders, c, orderWords)) {
                    continue;
                }
                if (performed(orders, c) < 0) {
                    stoppedAt = c;
                    now.scene.copyFrom(sceneAhead);
                    log.copyFrom(logAhead);
                    return refused(CANNOT_BE);
                }
                orderWords[WORD_DONE]++;
            }
        }
        return answered(orderWords[WORD_DONE]);
    }

    public int fault() {
        return parser.faultPlace();
    }

    public int stopped() {
        return stoppedAt;
    }

    public int force(int law) {
        if (law != NONE && !now.hasLaw(law)) {
            return refused(NO_SUCH);
        }
        int was = now.forced;
        now.forced = law;
        return answered(was);
    }

    public int crack(int tamer, int province) {
        return settled(cracked(tamer, province));
    }

    public int meat(int tamer, int province) {
        return settled(fed(tamer, province));
    }

    public int move(int province, int tub) {
        return settled(moved(province, tub));
    }

    public int pass() {
        return settled(passed());
    }

    public int undo() {
        int kind = log.takeBack(now.scene);
        return kind == NONE ? refused(CANNOT_BE) : answered(kind);
    }

    public int show(int tamer, int provinces, int i) {
        int all = (1 << now.scene.provinces()) - 1;
        if (!now.scene.hasTamer(tamer) || (provinces & ~all) != 0) {
            return NONE;
        }
        int balks = plans.findShow(now, tamer, provinces);
        if (balks == NONE || i == NONE) {
            return balks;
        }
        return within(i, Integer.bitCount(provinces) - 1) ? plans.found(i) : NONE;
    }

    public int least(int tamer, int what) {
        int provinces = now.scene.provinces();
        if (!now.scene.hasTamer(tamer) || !within(what, provinces)) {
            return NONE;
        }
        if (what > 0) {
            return leastFor(tamer, what - 1);
        }
        int together = 0;
        for (int p = 0; p < provinces; p++) {
            int feedings = leastFor(tamer, p);
            if (feedings == NONE) {
                return NONE;
            }
            together += feedings;
        }
        return together;
    }

    public int seats(int what) {
        if (!within(what, now.scene.provinces())) {
            return NONE;
        }
        int moves = plans.findSeats(now);
        return moves == NONE || what == 0 ? moves : plans.found(what - 1);
    }

    public int done(int day, int tamer, int province, int did) {
        if (!within(day, LAST_DEED_DAY) || !within(did, JUMPS)) {
            return refused(WRONG_NUMBER);
        }
        if (!now.scene.hasTamer(tamer) || !now.scene.hasProvince(province)) {
            return refused(NO_SUCH);
        }
        if (now.deeds.size() >= MAX_DEEDS) {
            return refused(NO_ROOM);
        }
        return answered(now.deeds.add(day, tamer, province, did));
    }

    public int forget() {
        int was = now.deeds.size();
        now.deeds.clear();
        return was;
    }

    public int one(int i) {
        int provinces = now.scene.provinces();
        int found = 0;
        for (int low = 0; low < provinces; low++) {
            for (int high = low + 1; high < provinces; high++) {
                if (now.deeds.areOne(low, high)) {
                    if (found == i) {
                        return 10 * low + high;
                    }
                    found++;
                }
            }
        }
        return i == NONE ? found : NONE;
    }

    public int tempers(int province) {
        return now.scene.hasProvince(province) ? tempersOf(province) : NONE;
    }

    public int ask(int province, int what) {
        if (!now.scene.hasProvince(province) || !within(what, 1)) {
            return NONE;
        }
        int tempers = tempersOf(province);
        if (tempers == 0) {
            return NONE;
        }
        int asked = NONE;
        int fewest = NONE;
        for (int t = 0; t < now.scene.tamers(); t++) {
            int left = mostAlike(t, province, tempers);
            if (asked == NONE || left < fewest) {
                asked = t;
                fewest = left;
            }
        }
        return what == 0 ? asked : fewest;
    }

    public int governed(int what) {
        if (!within(what, now.scene.provinces())) {
            return NONE;
        }
        int governed = plans.findGoverned(now);
        return what == 0 ? governed : plans.found(what - 1);
    }

    public int calmest(int province) {
        if (!now.scene.hasProvince(province)) {
            return NONE;
        }
        int calm = NONE;
        int least = NONE;
        for (int t = 0; t < now.scene.tamers(); t++) {
            int anger = rules.anger(now.scene, now.lawInForce(), t, province);
            if (calm == NONE || anger < least) {
                calm = t;
                least = anger;
            }
        }
        return calm;
    }

    public int cubs(int tamer, int n, int i) {
        if (!now.scene.hasTamer(tamer) || !within(n, MAX_CUB_DAYS)) {
            return NONE;
        }
        if (i != NONE && !within(i, n - 1)) {
            return NONE;
        }
        int loyal = plans.findCubs(now, tamer, n);
        return i == NONE ? loyal : plans.found(i);
    }

    public long safe(int k, int n) {
        if (k < 1 || k > MAX_THUNDERS || !within(n, MAX_SAFE_DAYS)) {
            return NONE;
        }
        int thunder = now.scene.get(Scene.TERMS, 1);
        Arrays.fill(chances, 0L);
        chances[0] = WHOLE;
        for (int d = 0; d < n; d++) {
            for (int j = k - 1; j >= 0; j--) {
                long struck = j == 0 ? 0L : chances[j - 1] * thunder / 10;
                chances[j] = chances[j] * (10 - thunder) / 10 + struck;
            }
        }
        long together = 0;
        for (int j = 0; j < k; j++) {
            together += chances[j];
        }
        return together;
    }

    public int compare(int law, int tamer) {
        if (!now.scene.hasTamer(tamer) || (law != NONE && !now.hasLaw(law))) {
            return NONE;
        }
        int loyal = 0;
        for (int p = 0; p < now.scene.provinces(); p++) {
            if (rules.loyal(now.scene, now.lawAt(law), tamer, p)) {
                loyal++;
            }
        }
        return loyal;
    }

    public int decades(int seed, int n) {
        if (!within(seed, MAX_SEED) || n < 1 || n > MAX_DECADES) {
            return refused(WRONG_NUMBER);
        }
        int tamers = now.scene.tamers();
        int provinces = now.scene.provinces();
        if (tamers == 0 || provinces == 0) {
            return refused(CANNOT_BE);
        }
        Scene scene = drawnScene;
        scene.copyFrom(now.scene);
        int bites = 0;
        int s = seed;
        for (int k = 0; k < n && scene.day() < LAST_DAY; k++) {
            s = drawnFrom(s);
            int tamer = s % tamers;
            s = drawnFrom(s);
            int province = s % provinces;
            s = drawnFrom(s);
            if (s % 3 == 0 && bitesOnPaper(scene, tamer, province)) {
                bites++;
            }
            if (s % 3 == 1) {
                rules.feeding(scene, tamer, province);
            }
            rules.nextDay(scene, now.lawInForce());
        }
        return answered(bites);
    }

    public int drawn(int k, int what) {
        boolean known = what < 2 ? drawnScene.hasProvince(k) : drawnScene.hasTamer(k);
        if (!known) {
            return NONE;
        }
        switch (what) {
            case 0:
                return drawnScene.get(Scene.HUNGER, k);
            case 1:
                return drawnScene.get(Scene.TEMPER, k);
            case 2:
                return drawnScene.get(Scene.MEAT, k);
            case 3:
                return drawnScene.get(Scene.ARMS, k);
            default:
                return NONE;
        }
    }

    public int image(int k) {
        if (!within(k, IMAGES - 1)) {
            return refused(WRONG_NUMBER);
        }
        World kept = images[k];
        if (kept == null) {
            kept = new World();
            images[k] = kept;
        }
        kept.copyFrom(now);
        return answered(0);
    }

    public int back(int k) {
        if (!within(k, IMAGES - 1)) {
            return refused(WRONG_NUMBER);
        }
        World kept = images[k];
        if (kept == null) {
            return refused(NO_SUCH);
        }
        now.copyFrom(kept);
        log.clear();
        return answered(0);
    }

    public int count(int what) {
        if (what >= 7 && what < 7 + refusedBy.length) {
            return refusedBy[what - 7];
        }
        switch (what) {
            case 0:
                return now.scene.provinces();
            case 1:
                return now.scene.tamers();
            case 2:
                return now.scene.armsOfAll();
            case 3:
                return now.deeds.size();
            case 4:
                return now.lawCount;
            case 5:
                return log.size();
            case 6:
                return tape.length();
            case 12:
                return now.forced;
            case 13:
            case 14:
            case 15:
                return now.scene.get(Scene.TERMS, what - 13);
            default:
                return NONE;
        }
    }

    public int status() {
        return latestStatus;
    }

    private static boolean within(int value, int top) {
        return value >= 0 && value <= top;
    }

    private static boolean fitsProvince(int hunger, int temper, int tub) {
        return within(hunger, TOP_HUNGER) && within(temper, TOP_TEMPER) && within(tub, TUBS - 1);
    }

    private static int drawnFrom(int s) {
        return (int) ((s * 1103L + 12345L) % 1000003L);
    }

    private int answered(int answer) {
        latestStatus = 0;
        return answer;
    }

    private int refused(int by) {
        latestStatus = by;
        for (int i = 0; i < REFUSALS.length; i++) {
            if (REFUSALS[i] == by) {
                refusedBy[i]++;
            }
        }
        return by;
    }

    private int settled(int answer) {
        return answer < 0 ? refused(answer) : answered(answer);
    }

    private boolean rowProvince(int first) {
        int hunger = tape.byteAt(first);
        int temper = tape.byteAt(first + 1);
        int tub = tape.byteAt(first + 2);
        if (!fitsProvince(hunger, temper, tub) || now.scene.onTub(tub) != NONE) {
            return false;
        }
        return now.scene.addProvince(hunger, temper, tub) != NONE;
    }

    private boolean mayCrack(Scene scene, int tamer, int province) {
        return scene.get(Scene.ARMS, tamer) >= 1 && !rules.barred(scene, now.lawInForce(), tamer, province);
    }

    private int cracked(int tamer, int province) {
        Scene scene = now.scene;
        if (!scene.hasTamer(tamer) || !scene.hasProvince(province)) {
            return NO_SUCH;
        }
        if (!mayCrack(scene, tamer, province)) {
            return CANNOT_BE;
        }
        log.keep(scene, ACT_CRACK);
        int did = rules.reaction(scene, now.lawInForce(), tamer, province);
        scene.react(did, tamer, province);
        return did;
    }

    private boolean bitesOnPaper(Scene scene, int tamer, int province) {
        if (!mayCrack(scene, tamer, province)) {
            return false;
        }
        int did = rules.reaction(scene, now.lawInForce(), tamer, province);
        scene.react(did, tamer, province);
        return did == BITES;
    }

    private int fed(int tamer, int province) {
        Scene scene = now.scene;
        if (!scene.hasTamer(tamer) || !scene.hasProvince(province)) {
            return NO_SUCH;
        }
        if (scene.get(Scene.MEAT, tamer) < 1) {
            return CANNOT_BE;
        }
        log.keep(scene, ACT_FEED);
        rules.feeding(scene, tamer, province);
        return scene.get(Scene.HUNGER, province);
    }

    private int moved(int province, int tub) {
        Scene scene = now.scene;
        if (!within(tub, TUBS - 1)) {
            return WRONG_NUMBER;
        }
        if (!scene.hasProvince(province)) {
            return NO_SUCH;
        }
        if (scene.onTub(tub) != NONE) {
            return CANNOT_BE;
        }
        log.keep(scene, ACT_MOVE);
        int was = scene.get(Scene.TUB, province);
        scene.set(Scene.TUB, province, tub);
        return was;
    }

    private int passed() {
        Scene scene = now.scene;
        if (scene.day() >= LAST_DAY) {
            return CANNOT_BE;
        }
        log.keep(scene, ACT_PASS);
        rules.nextDay(scene, now.lawInForce());
        return scene.day();
    }

    private void setOrderWords() {
        Scene scene = now.scene;
        orderWords[WORD_DAY] = scene.day();
        for (int p = 0; p < MAX_PROVINCES; p++) {
            boolean is = scene.hasProvince(p);
            orderWords[WORD_HUNGER + p] = is ? scene.get(Scene.HUNGER, p) : NONE;
            orderWords[WORD_TEMPER + p] = is ? scene.get(Scene.TEMPER, p) : NONE;
        }
        for (int t = 0; t < MAX_TAMERS; t++) {
            boolean is = scene.hasTamer(t);
            orderWords[WORD_MEAT + t] = is ? scene.get(Scene.MEAT, t) : NONE;
            orderWords[WORD_ARMS + t] = is ? scene.get(Scene.ARMS, t) : NONE;
        }
    }

    private int performed(Program orders, int clause) {
        int kind = orders.part(clause, Program.KIND);
        if (kind == ACT_PASS) {
            return passed();
        }
        if (!rules.sumTold(orders, orders.part(clause, Program.FIRST), orderWords)) {
            return CANNOT_BE;
        }
        int first = rules.told();
        if (!rules.sumTold(orders, orders.part(clause, Program.SECOND), orderWords)) {
            return CANNOT_BE;
        }
        int second = rules.told();
        if (kind == ACT_FEED) {
            return fed(first, second);
        }
        if (kind == ACT_MOVE) {
            return moved(first, second);
        }
        int did = cracked(first, second);
        orderWords[WORD_LATEST] = did;
        return did;
    }

    private int leastFor(int tamer, int province) {
        paper.copyFrom(now.scene);
        for (int feedings = 0; feedings <= MAX_FEEDINGS; feedings++) {
            if (rules.loyal(paper, now.lawInForce(), tamer, province)) {
                return feedings;
            }
            paper.eat(tamer, province);
        }
        return NONE;
    }

    private int tempersOf(int province) {
        paper.copyFrom(now.scene);
        int bits = 0;
        for (int temper = 0; temper <= TOP_TEMPER; temper++) {
            paper.set(Scene.TEMPER, province, temper);
            if (wouldHaveDoneAll(province)) {
                bits |= 1 << temper;
            }
        }
        return bits;
    }

    private boolean wouldHaveDoneAll(int province) {
        for (int d = 0; d < now.deeds.size(); d++) {
            if (now.deeds.get(d, Deeds.PROVINCE) != province) {
                continue;
            }
            int tamer = now.deeds.get(d, Deeds.TAMER);
            int would = rules.reaction(paper, now.lawInForce(), tamer, province);
            if (would != now.deeds.get(d, Deeds.DID)) {
                return false;
            }
        }
        return true;
    }

    private int mostAlike(int tamer, int province, int tempers) {
        paper.copyFrom(now.scene);
        Arrays.fill(alike, 0);
        int most = 0;
        for (int temper = 0; temper <= TOP_TEMPER; temper++) {
            if ((tempers >> temper & 1) == 0) {
                continue;
            }
            paper.set(Scene.TEMPER, province, temper);
            int would = rules.reaction(paper, now.lawInForce(), tamer, province);
            if (within(would, JUMPS)) {
                alike[would]++;
                most = Math.max(most, alike[would]);
            }
        }
        return most;
    }

    /** What acts and days read and change: one row of numbers, so that it is kept and put back at once. */
    private static final class Scene {
        static final int PROVINCES = 0;
        static final int TAMERS = 1;
        static final int TERMS = 2;
        static final int HUNGER = 5;
        static final int TEMPER = 11;
        static final int TUB = 17;
        static final int NERVE = 23;
        static final int MEAT = 27;
        static final int ARMS = 31;
        static final int MEMORY = 35;
        static final int SIZE = 59;

        private final int[] cells = new int[SIZE];

        int get(int first, int i) {
            int cell = first + i;
            return cell >= 0 && cell < SIZE ? cells[cell] : NONE;
        }

        void set(int first, int i, int value) {
            int cell = first + i;
            if (cell >= 0 && cell < SIZE) {
                cells[cell] = value;
            }
        }

        void change(int first, int i, int by, int top) {
            set(first, i, Math.max(0, Math.min(top, get(first, i) + by)));
        }

        int provinces() {
            return cells[PROVINCES];
        }

        int tamers() {
            return cells[TAMERS];
        }

        int day() {
            return cells[TERMS];
        }

        boolean hasProvince(int p) {
            return p >= 0 && p < cells[PROVINCES];
        }

        boolean hasTamer(int t) {
            return t >= 0 && t < cells[TAMERS];
        }

        int memory(int t, int p) {
            return get(MEMORY, t * MAX_PROVINCES + p);
        }

        int armsOfAll() {
            int arms = 0;
            for (int t = 0; t < cells[TAMERS]; t++) {
                arms += get(ARMS, t);
            }
            return arms;
        }

        int onTub(int tub) {
            for (int p = 0; p < cells[PROVINCES]; p++) {
                if (get(TUB, p) == tub) {
                    return p;
                }
            }
            return NONE;
        }

        int addProvince(int hunger, int temper, int tub) {
            int p = cells[PROVINCES];
            if (p >= MAX_PROVINCES) {
                return NONE;
            }
            set(HUNGER, p, hunger);
            set(TEMPER, p, temper);
            set(TUB, p, tub);
            cells[PROVINCES] = p + 1;
            return p;
        }

        int addTamer(int nerve, int meat) {
            int t = cells[TAMERS];
            if (t >= MAX_TAMERS) {
                return NONE;
            }
            set(NERVE, t, nerve);
            set(MEAT, t, meat);
            set(ARMS, t, FIRST_ARMS);
            cells[TAMERS] = t + 1;
            return t;
        }

        void react(int did, int t, int p) {
            if (did == JUMPS) {
                change(HUNGER, p, 1, TOP_HUNGER);
                stirNeighbours(p, -1);
            } else if (did == BALKS) {
                change(TEMPER, p, 1, TOP_TEMPER);
                stirNeighbours(p, 1);
            } else {
                change(ARMS, t, -1, FIRST_ARMS);
                change(HUNGER, p, -2, TOP_HUNGER);
            }
        }

        private void stirNeighbours(int p, int by) {
            int tub = get(TUB, p);
            for (int q = 0; q < cells[PROVINCES]; q++) {
                if (besideEachOther(tub, get(TUB, q))) {
                    change(TEMPER, q, by, TOP_TEMPER);
                }
            }
        }

        static boolean besideEachOther(int tub, int other) {
            int apart = Math.abs(tub - other);
            return apart == 1 || apart == TUBS - 1;
        }

        void eat(int t, int p) {
            change(HUNGER, p, -3, TOP_HUNGER);
            change(MEMORY, t * MAX_PROVINCES + p, 1, TOP_MEMORY);
        }

        void copyFrom(Scene other) {
            System.arraycopy(other.cells, 0, cells, 0, SIZE);
        }

        void saveTo(int[] store, int slot) {
            if (slot >= 0 && slot < store.length / SIZE) {
                System.arraycopy(cells, 0, store, slot * SIZE, SIZE);
            }
        }

        void loadFrom(int[] store, int slot) {
            if (slot >= 0 && slot < store.length / SIZE) {
                System.arraycopy(store, slot * SIZE, cells, 0, SIZE);
            }
        }
    }

    /** What is told that provinces did. */
    private static final class Deeds {
        static final int DAY = 0;
        static final int TAMER = 1;
        static final int PROVINCE = 2;
        static final int DID = 3;
        private static final int WIDTH = 4;

        private final int[] told = new int[MAX_DEEDS * WIDTH];
        private int size;

        int size() {
            return size;
        }

        void clear() {
            size = 0;
        }

        int get(int d, int what) {
            int cell = d * WIDTH + what;
            return cell >= 0 && cell < told.length ? told[cell] : NONE;
        }

        int add(int day, int tamer, int province, int did) {
            if (size < MAX_DEEDS) {
                int cell = size * WIDTH;
                told[cell + DAY] = day;
                told[cell + TAMER] = tamer;
                told[cell + PROVINCE] = province;
                told[cell + DID] = did;
                size++;
            }
            return size;
        }

        boolean areOne(int low, int high) {
            boolean met = false;
            for (int a = 0; a < size; a++) {
                for (int b = 0; b < size && get(a, PROVINCE) == low; b++) {
                    if (get(b, PROVINCE) != high || !sameCrack(a, b)) {
                        continue;
                    }
                    if (get(a, DID) != get(b, DID)) {
                        return false;
                    }
                    met = true;
                }
            }
            return met;
        }

        private boolean sameCrack(int a, int b) {
            return get(a, DAY) == get(b, DAY) && get(a, TAMER) == get(b, TAMER);
        }

        void copyFrom(Deeds other) {
            System.arraycopy(other.told, 0, told, 0, told.length);
            size = other.size;
        }
    }

    /** All that an image keeps. */
    private static final class World {
        private final Scene scene = new Scene();
        private final Deeds deeds = new Deeds();
        private final int[] feuds = new int[MAX_PROVINCES];
        private final Program[] laws = new Program[MAX_LAWS];
        private int lawCount;
        private int forced = NONE;

        World() {
            scene.set(Scene.TERMS, 1, 1);
        }

        int feudsOf(int p) {
            return p >= 0 && p < feuds.length ? feuds[p] : 0;
        }

        int setFeud(int p, int q, int is) {
            if (p < 0 || p >= feuds.length || q < 0 || q >= feuds.length) {
                return 0;
            }
            int was = feuds[p] >> q & 1;
            feuds[p] = feuds[p] & ~(1 << q) | is << q;
            feuds[q] = feuds[q] & ~(1 << p) | is << p;
            return was;
        }

        boolean hasLaw(int n) {
            return n >= 0 && n < lawCount;
        }

        Program lawAt(int n) {
            return n >= 0 && n < lawCount && n < laws.length ? laws[n] : null;
        }

        Program lawInForce() {
            return lawAt(forced);
        }

        int addLaw(Program law) {
            if (lawCount < laws.length) {
                laws[lawCount] = law;
                lawCount++;
            }
            return lawCount - 1;
        }

        void copyFrom(World other) {
            scene.copyFrom(other.scene);
            deeds.copyFrom(other.deeds);
            System.arraycopy(other.feuds, 0, feuds, 0, feuds.length);
            for (int n = 0; n < laws.length; n++) {
                laws[n] = other.laws[n];
            }
            lawCount = other.lawCount;
            forced = other.forced;
        }
    }

    /** The latest scenes that acts have changed, in a ring, so that older ones fall out by themselves. */
    private static final class Log {
        private final int[] scenes = new int[MAX_UNDO * Scene.SIZE];
        private final int[] kinds = new int[MAX_UNDO];
        private int next;
        private int size;

        int size() {
            return size;
        }

        void clear() {
            size = 0;
            next = 0;
        }

        void keep(Scene scene, int kind) {
            scene.saveTo(scenes, next);
            kinds[next] = kind;
            next = (next + 1) % MAX_UNDO;
            size = Math.min(MAX_UNDO, size + 1);
        }

        int takeBack(Scene scene) {
            if (size == 0) {
                return NONE;
            }
            next = (next + MAX_UNDO - 1) % MAX_UNDO;
            size--;
            scene.loadFrom(scenes, next);
            return kinds[next];
        }

        void copyFrom(Log other) {
            System.arraycopy(other.scenes, 0, scenes, 0, scenes.length);
            System.arraycopy(other.kinds, 0, kinds, 0, kinds.length);
            next = other.next;
            size = other.size;
        }
    }

    /** The bytes that came and were not read yet. */
    private static final class Tape {
        private final int[] bytes = new int[MAX_TAPE];
        private int length;

        int length() {
            return length;
        }

        void clear() {
            length = 0;
        }

        boolean hasRoomFor(int more) {
            return length + more <= MAX_TAPE;
        }

        void add(int four) {
            for (int shift = 24; shift >= 0 && length < MAX_TAPE; shift -= 8) {
                bytes[length] = four >>> shift & 255;
                length++;
            }
        }

        boolean cut(int n) {
            if (n < 0 || n > length) {
                return false;
            }
            length = n;
            return true;
        }

        int byteAt(int i) {
            return i >= 0 && i < length ? bytes[i] : NONE;
        }

        /** It stops beyond MAX_NUMBER, where all numbers are wrong alike. */
        int numberAt(int from, int behind) {
            int value = 0;
            for (int i = from; i < behind && value <= MAX_NUMBER; i++) {
                value = value * 10 + byteAt(i) - '0';
            }
            return Math.min(value, MAX_NUMBER + 1);
        }

        int wordAmong(String words, int from, int behind) {
            int which = 0;
            int matched = 0;
            for (int i = 0; i < words.length(); i++) {
                char sign = words.charAt(i);
                if (sign == ' ') {
                    if (matched == behind - from) {
                        return which;
                    }
                    which++;
                    matched = 0;
                } else if (matched != NONE) {
                    matched = byteAt(from + matched) == sign ? matched + 1 : NONE;
                }
            }
            return NONE;
        }
    }

    /** A text as read: clauses, and the code of their sums and tests, each run of it closed by STOP. */
    private static final class Program {
        static final int KIND = 0;
        static final int TIMES = 1;
        static final int FIRST = 2;
        static final int SECOND = 3;
        static final int TEST = 4;
        private static final int WIDTH = 5;

        static final int STOP = 0;
        static final int NUMBER = 1;
        static final int WORD = 2;
        static final int PLUS = 3;
        static final int MINUS = 4;
        static final int TIMES_BY = 5;
        static final int DIVIDED = 6;
        static final int REST = 7;
        static final int LESS = 8;
        static final int MORE = 9;
        static final int SAME = 10;
        static final int NOT = 11;
        static final int OR = 12;
        static final int AND = 13;

        private final int[] code;
        private final int[] rows;
        private int size;
        private int clauses;

        Program(int[] code, int[] rows, int size, int clauses) {
            this.code = code;
            this.rows = rows;
            this.size = size;
            this.clauses = clauses;
        }

        Program trimmed() {
            int[] ownCode = Arrays.copyOf(code, Math.max(0, size));
            int[] ownRows = Arrays.copyOf(rows, Math.max(0, clauses * WIDTH));
            return new Program(ownCode, ownRows, size, clauses);
        }

        void clear() {
            size = 0;
            clauses = 0;
        }

        int size() {
            return size;
        }

        int clauses() {
            return clauses;
        }

        int part(int clause, int what) {
            int cell = clause * WIDTH + what;
            return cell >= 0 && cell < rows.length ? rows[cell] : NONE;
        }

        void open(int kind) {
            clauses++;
            setPart(KIND, kind);
            setPart(TIMES, 1);
            setPart(FIRST, NONE);
            setPart(SECOND, NONE);
            setPart(TEST, NONE);
        }

        void setPart(int what, int value) {
            int cell = (clauses - 1) * WIDTH + what;
            if (cell >= 0 && cell < rows.length) {
                rows[cell] = value;
            }
        }

        int emit(int operation, int argument) {
            if (size < code.length) {
                code[size] = argument << 4 | operation;
                size++;
            }
            return size - 1;
        }

        void aimHere(int jump) {
            if (jump >= 0 && jump < code.length) {
                code[jump] = size << 4 | code[jump] & 15;
            }
        }

        int operationAt(int place) {
            return place >= 0 && place < size ? code[place] & 15 : NONE;
        }

        int argumentAt(int place) {
            return place >= 0 && place < size ? code[place] >> 4 : 0;
        }
    }

    /** Reads both languages; the first token that can't go on ends it. */
    private static final class Parser {
        /** A word's place in these rows makes its token; kinds and words of laws stand in them as they are numbered. */
        private static final String FRAME_WORDS =
            "angers hungers pays bars crack feed move pass at to times if or and not ";
        private static final String PART_WORDS =
            "tamer province hunger temper memory nerve meat tub day mood done latest arms ";

        private static final int ENDED = -1;
        private static final int FIRST_NUMBER = 256;
        private static final int FIRST_FRAME = 2000;
        private static final int FIRST_ORDER = FIRST_FRAME + 4;
        private static final int AT = FIRST_FRAME + 8;
        private static final int TO = FIRST_FRAME + 9;
        private static final int TIMES = FIRST_FRAME + 10;
        private static final int IF = FIRST_FRAME + 11;
        private static final int OR = FIRST_FRAME + 12;
        private static final int AND = FIRST_FRAME + 13;
        private static final int NOT = FIRST_FRAME + 14;
        private static final int FIRST_PART = 3000;
        private static final int HUNGER = FIRST_PART + 2;
        private static final int TEMPER = FIRST_PART + 3;
        private static final int MEAT = FIRST_PART + 6;
        private static final int DAY = FIRST_PART + 8;
        private static final int DONE = FIRST_PART + 10;
        private static final int LATEST = FIRST_PART + 11;
        private static final int ARMS = FIRST_PART + 12;
        private static final int STRANGE = 4000;

        private static final int BLANKS = 0;
        private static final int LETTERS = 1;
        private static final int DIGITS = 2;
        private static final int OTHER = 3;

        private final Tape tape;
        private final Program program =
            new Program(new int[MAX_TAPE], new int[MAX_CLAUSES * Program.WIDTH], 0, 0);
        private final int[] tokens = new int[MAX_TAPE + 1];
        private final int[] places = new int[MAX_TAPE + 1];
        private boolean asOrders;
        private int current;
        private int token = ENDED;
        private int parts;
        private int faultPlace = NONE;

        Parser(Tape tape) {
            this.tape = tape;
        }

        Program read() {
            return program;
        }

        int faultPlace() {
            return faultPlace;
        }

        /** The tape is empty then, whether it could be read or not. */
        boolean reads(boolean orders) {
            asOrders = orders;
            program.clear();
            parts = 0;
            faultPlace = NONE;
            findTokens();
            tape.clear();
            for (int n = 0; n < MAX_CLAUSES; n++) {
                boolean fine = asOrders ? readOrder() : readLaw();
                if (!fine) {
                    return false;
                }
                if (token == ENDED) {
                    return true;
                }
                if (!takes(';')) {
                    return fails();
                }
            }
            return fails();
        }

        private void findTokens() {
            int length = tape.length();
            int found = 0;
            int place = 0;
            while (place < length && found < MAX_TAPE) {
                int kind = kindOf(tape.byteAt(place));
                int behind = place + 1;
                while (behind < length && kind != OTHER && kindOf(tape.byteAt(behind)) == kind) {
                    behind++;
                }
                if (kind != BLANKS) {
                    tokens[found] = tokenOf(kind, place, behind);
                    places[found] = place;
                    found++;
                }
                place = behind;
            }
            tokens[found] = ENDED;
            places[found] = length;
            current = 0;
            token = tokens[0];
        }

        private static int kindOf(int sign) {
            if (sign == ' ') {
                return BLANKS;
            }
            if (sign >= 'a' && sign <= 'z') {
                return LETTERS;
            }
            return sign >= '0' && sign <= '9' ? DIGITS : OTHER;
        }

        private int tokenOf(int kind, int from, int behind) {
            if (kind == OTHER) {
                return tape.byteAt(from);
            }
            if (kind == DIGITS) {
                return FIRST_NUMBER + tape.numberAt(from, behind);
            }
            int frame = tape.wordAmong(FRAME_WORDS, from, behind);
            if (frame != NONE) {
                return FIRST_FRAME + frame;
            }
            int part = tape.wordAmong(PART_WORDS, from, behind);
            return part != NONE ? FIRST_PART + part : STRANGE;
        }

        private void next() {
            if (token != ENDED && current < MAX_TAPE) {
                current++;
                token = tokens[current];
            }
        }

        private boolean takes(int wanted) {
            if (token != wanted) {
                return false;
            }
            next();
            return true;
        }

        private boolean fails() {
            faultPlace = places[current];
            return false;
        }

        private static int numberOf(int token) {
            return token >= FIRST_NUMBER && token < FIRST_FRAME ? token - FIRST_NUMBER : NONE;
        }

        private boolean readLaw() {
            int kind = token - FIRST_FRAME;
            if (!within(kind, LAW_BARS)) {
                return fails();
            }
            program.open(kind);
            next();
            if (kind != LAW_BARS && !readWholeSum(Program.FIRST)) {
                return false;
            }
            return readIf();
        }

        private boolean readOrder() {
            int kind = token - FIRST_ORDER;
            if (!within(kind, ACT_PASS)) {
                return fails();
            }
            program.open(kind);
            next();
            if (kind != ACT_PASS) {
                if (!readWholeSum(Program.FIRST)) {
                    return false;
                }
                if (!takes(kind == ACT_CRACK ? AT : TO)) {
                    return fails();
                }
                if (!readWholeSum(Program.SECOND)) {
                    return false;
                }
            }
            return readTimes() && readIf();
        }

        private boolean readTimes() {
            if (!takes(TIMES)) {
                return true;
            }
            int times = numberOf(token);
            if (times < 1 || times > MAX_TIMES) {
                return fails();
            }
            program.setPart(Program.TIMES, times);
            next();
            return true;
        }

        private boolean readIf() {
            if (!takes(IF)) {
                return true;
            }
            program.setPart(Program.TEST, program.size());
            boolean fine = readTest(0);
            program.emit(Program.STOP, 0);
            return fine;
        }

        private boolean readWholeSum(int part) {
            program.setPart(part, program.size());
            boolean fine = readSum(0);
            program.emit(Program.STOP, 0);
            return fine;
        }

        private boolean readTest(int depth) {
            if (!readBoth(depth)) {
                return false;
            }
            for (int n = 0; n < MAX_TAPE && takes(OR); n++) {
                int jump = program.emit(Program.OR, 0);
                if (!readBoth(depth)) {
                    return false;
                }
                program.aimHere(jump);
            }
            return true;
        }

        private boolean readBoth(int depth) {
            if (!readPlain(depth)) {
                return false;
            }
            for (int n = 0; n < MAX_TAPE && takes(AND); n++) {
                int jump = program.emit(Program.AND, 0);
                if (!readPlain(depth)) {
                    return false;
                }
                program.aimHere(jump);
            }
            return true;
        }

        private boolean readPlain(int depth) {
            boolean turned = false;
            for (int n = 0; n < MAX_TAPE && takes(NOT); n++) {
                turned = !turned;
            }
            if (token == '(') {
                if (depth >= MAX_BRACKETS) {
                    return fails();
                }
                next();
                if (!readTest(depth + 1)) {
                    return false;
                }
                if (!takes(')')) {
                    return fails();
                }
            } else {
                if (!readSum(depth)) {
                    return false;
                }
                int operation = comparison();
                if (operation == NONE) {
                    return fails();
                }
                next();
                if (!readSum(depth)) {
                    return false;
                }
                program.emit(operation, 0);
            }
            if (turned) {
                program.emit(Program.NOT, 0);
            }
            return true;
        }

        private int comparison() {
            if (token == '<') {
                return Program.LESS;
            }
            if (token == '>') {
                return Program.MORE;
            }
            return token == '=' ? Program.SAME : NONE;
        }

        private boolean readSum(int depth) {
            if (!readTerm(depth)) {
                return false;
            }
            for (int n = 0; n < MAX_TAPE && (token == '+' || token == '-'); n++) {
                int operation = token == '+' ? Program.PLUS : Program.MINUS;
                next();
                if (!readTerm(depth)) {
                    return false;
                }
                program.emit(operation, 0);
            }
            return true;
        }

        private boolean readTerm(int depth) {
            if (!readPart(depth)) {
                return false;
            }
            for (int n = 0; n < MAX_TAPE && (token == '*' || token == '/' || token == '%'); n++) {
                int operation = token == '*' ? Program.TIMES_BY
                    : token == '/' ? Program.DIVIDED : Program.REST;
                next();
                if (!readPart(depth)) {
                    return false;
                }
                program.emit(operation, 0);
            }
            return true;
        }

        private boolean readPart(int depth) {
            if (token == '[') {
                if (depth >= MAX_BRACKETS) {
                    return fails();
                }
                next();
                if (!readSum(depth + 1)) {
                    return false;
                }
                return takes(']') || fails();
            }
            if (parts >= MAX_PARTS) {
                return fails();
            }
            parts++;
            int value = numberOf(token);
            int top = MAX_NUMBER;
            int operation = Program.NUMBER;
            if (value == NONE) {
                value = asOrders ? orderWord() : token - FIRST_PART;
                top = asOrders ? ORDER_WORDS - 1 : LAW_WORDS - 1;
                operation = Program.WORD;
            }
            if (!within(value, top)) {
                return fails();
            }
            program.emit(operation, value);
            next();
            return true;
        }

        /** A word that asks of one of many is at its number then, so that a fault there is told there. */
        private int orderWord() {
            int alone = token == DAY ? WORD_DAY
                : token == DONE ? WORD_DONE
                : token == LATEST ? WORD_LATEST : NONE;
            if (alone != NONE) {
                return alone;
            }
            int many = token == HUNGER || token == TEMPER ? MAX_PROVINCES : MAX_TAMERS;
            int first = token == HUNGER ? WORD_HUNGER
                : token == TEMPER ? WORD_TEMPER
                : token == MEAT ? WORD_MEAT
                : token == ARMS ? WORD_ARMS : NONE;
            if (first == NONE) {
                return NONE;
            }
            next();
            int which = numberOf(token);
            return within(which, many - 1) ? first + which : NONE;
        }
    }

    /** Runs the code of sums and tests on a stack. */
    private static final class Machine {
        private static final long LIMIT = 1000000000L;
        private static final int ROOM = 64;

        private final long[] stack = new long[ROOM];
        private int top;

        int result() {
            return (int) stack[0];
        }

        /** False if it is BROKEN; jumps only go forward, so no place is run twice. */
        boolean runs(Program program, int from, int[] words) {
            top = 0;
            int place = from;
            for (int steps = 0; steps < program.size(); steps++) {
                int operation = program.operationAt(place);
                int argument = program.argumentAt(place);
                place++;
                boolean fine;
                switch (operation) {
                    case Program.STOP:
                        return top == 1;
                    case Program.NUMBER:
                        fine = pushes(argument);
                        break;
                    case Program.WORD:
                        fine = argument >= 0 && argument < words.length && pushes(words[argument]);
                        break;
                    case Program.OR:
                    case Program.AND:
                        fine = top > 0;
                        if (fine && (stack[top - 1] != 0) == (operation == Program.OR)) {
                            place = argument;
                        } else if (fine) {
                            top--;
                        }
                        break;
                    case Program.NOT:
                        fine = top > 0;
                        if (fine) {
                            stack[top - 1] = 1 - stack[top - 1];
                        }
                        break;
                    default:
                        fine = joins(operation);
                        break;
                }
                if (!fine) {
                    return false;
                }
            }
            return false;
        }

        private boolean pushes(int value) {
            if (top < 0 || top >= ROOM) {
                return false;
            }
            stack[top] = value;
            top++;
            return true;
        }

        private boolean joins(int operation) {
            if (top < 2) {
                return false;
            }
            long left = stack[top - 2];
            long right = stack[top - 1];
            boolean divides = operation == Program.DIVIDED || operation == Program.REST;
            if (divides && right == 0) {
                return false;
            }
            long value;
            switch (operation) {
                case Program.PLUS:
                    value = left + right;
                    break;
                case Program.MINUS:
                    value = left - right;
                    break;
                case Program.TIMES_BY:
                    value = left * right;
                    break;
                case Program.DIVIDED:
                    value = left / right;
                    break;
                case Program.REST:
                    value = left % right;
                    break;
                case Program.LESS:
                    value = left < right ? 1 : 0;
                    break;
                case Program.MORE:
                    value = left > right ? 1 : 0;
                    break;
                case Program.SAME:
                    value = left == right ? 1 : 0;
                    break;
                default:
                    return false;
            }
            top--;
            stack[top - 1] = value;
            return value >= -LIMIT && value <= LIMIT;
        }
    }

    /** What a law makes of a scene; a law that is null has no clause. */
    private static final class Rules {
        static final int WORD_TAMER = 0;
        static final int WORD_PROVINCE = 1;
        static final int WORD_HUNGER = 2;
        static final int WORD_TEMPER = 3;
        static final int WORD_MEMORY = 4;
        static final int WORD_NERVE = 5;
        static final int WORD_MEAT = 6;
        static final int WORD_TUB = 7;
        static final int WORD_DAY = 8;
        static final int WORD_MOOD = 9;

        private static final int PLAIN_GROWTH = 1;
        private static final int PLAIN_WAGE = 5;

        private final Machine machine = new Machine();
        private final int[] words = new int[LAW_WORDS];

        int anger(Scene scene, Program law, int t, int p) {
            setWords(scene, t, p);
            if (holds(law, LAW_ANGERS)) {
                return nearest(TOP_ANGER);
            }
            int plain = words[WORD_HUNGER] + words[WORD_TEMPER] - words[WORD_MEMORY];
            return Math.max(0, plain);
        }

        boolean barred(Scene scene, Program law, int t, int p) {
            setWords(scene, t, p);
            return holds(law, LAW_BARS);
        }

        int growth(Scene scene, Program law, int p) {
            setWords(scene, NONE, p);
            return holds(law, LAW_HUNGERS) ? nearest(TOP_HUNGER) : PLAIN_GROWTH;
        }

        int wage(Scene scene, Program law, int t) {
            setWords(scene, t, NONE);
            return holds(law, LAW_PAYS) ? nearest(TOP_MEAT) : PLAIN_WAGE;
        }

        boolean loyal(Scene scene, Program law, int t, int p) {
            return anger(scene, law, t, p) <= scene.get(Scene.NERVE, t);
        }

        int reaction(Scene scene, Program law, int t, int p) {
            int over = anger(scene, law, t, p) - scene.get(Scene.NERVE, t);
            if (over <= 0) {
                return JUMPS;
            }
            return over <= 3 ? BALKS : BITES;
        }

        void feeding(Scene scene, int t, int p) {
            if (scene.get(Scene.MEAT, t) >= 1) {
                scene.change(Scene.MEAT, t, -1, TOP_MEAT);
                scene.eat(t, p);
            }
        }

        /** Each asks only of itself and the day, so none sees what another has become; the day comes last. */
        void nextDay(Scene scene, Program law) {
            for (int p = 0; p < scene.provinces(); p++) {
                scene.change(Scene.HUNGER, p, growth(scene, law, p), TOP_HUNGER);
            }
            for (int t = 0; t < scene.tamers(); t++) {
                scene.change(Scene.MEAT, t, wage(scene, law, t), TOP_MEAT);
            }
            scene.change(Scene.TERMS, 0, 1, LAST_DAY);
        }

        boolean testHolds(Program program, int clause, int[] values) {
            int test = program.part(clause, Program.TEST);
            return test == NONE || (machine.runs(program, test, values) && machine.result() != 0);
        }

        boolean sumTold(Program program, int from, int[] values) {
            return machine.runs(program, from, values);
        }

        int told() {
            return machine.result();
        }

        private int nearest(int top) {
            return Math.max(0, Math.min(top, machine.result()));
        }

        private void setWords(Scene scene, int t, int p) {
            boolean both = t != NONE && p != NONE;
            words[WORD_TAMER] = t;
            words[WORD_PROVINCE] = p;
            words[WORD_HUNGER] = p == NONE ? NONE : scene.get(Scene.HUNGER, p);
            words[WORD_TEMPER] = p == NONE ? NONE : scene.get(Scene.TEMPER, p);
            words[WORD_MEMORY] = both ? scene.memory(t, p) : NONE;
            words[WORD_NERVE] = t == NONE ? NONE : scene.get(Scene.NERVE, t);
            words[WORD_MEAT] = t == NONE ? NONE : scene.get(Scene.MEAT, t);
            words[WORD_TUB] = p == NONE ? NONE : scene.get(Scene.TUB, p);
            words[WORD_DAY] = scene.day();
            words[WORD_MOOD] = scene.get(Scene.TERMS, 2);
        }

        /** The last clause of a kind that holds is the first found from behind; the machine has what it tells. */
        private boolean holds(Program law, int kind) {
            if (law == null) {
                return false;
            }
            for (int c = law.clauses() - 1; c >= 0; c--) {
                int test = law.part(c, Program.TEST);
                int sum = law.part(c, Program.FIRST);
                if (law.part(c, Program.KIND) == kind
                    && (test == NONE || (machine.runs(law, test, words) && machine.result() != 0))
                    && (sum == NONE || machine.runs(law, sum, words))) {
                    return true;
                }
            }
            return false;
        }
    }

    /** Looks rows through from the first on, so that of equal ones the first is kept. */
    private static final class Plans {
        private static final int TAMER_ROOM = 2;

        private final Rules rules;
        private final Scene paper = new Scene();
        private final int[] stages = new int[MAX_PROVINCES * Scene.SIZE];
        private final int[] turns = new int[MAX_PROVINCES * (TOP_TEMPER + 1)];
        private final int[] row = new int[MAX_PROVINCES];
        private final int[] bestRow = new int[MAX_PROVINCES];
        private final int[] may = new int[MAX_PROVINCES];
        private final int[] used = new int[MAX_PROVINCES];
        private int best;
        private int provinces;

        Plans(Rules rules) {
            this.rules = rules;
        }

        int found(int i) {
            return i >= 0 && i < bestRow.length ? bestRow[i] : NONE;
        }

        private void keepRow(int value) {
            best = value;
            System.arraycopy(row, 0, bestRow, 0, row.length);
        }

        int findShow(World world, int t, int told) {
            for (int p = 0; p < MAX_PROVINCES; p++) {
                if ((told >> p & 1) != 0) {
                    tellTurns(world, t, p);
                }
            }
            paper.copyFrom(world.scene);
            int tooMany = MAX_PROVINCES + 1;
            best = tooMany;
            act(t, told, 0, 0);
            return best == tooMany ? NONE : best;
        }

        /** Before its turn a show changes nothing of a province but its temper, so each temper is asked once. */
        private void tellTurns(World world, int t, int p) {
            Program law = world.lawInForce();
            paper.copyFrom(world.scene);
            for (int temper = 0; temper <= TOP_TEMPER; temper++) {
                paper.set(Scene.TEMPER, p, temper);
                boolean barred = rules.barred(paper, law, t, p);
                turns[p * (TOP_TEMPER + 1) + temper] = barred ? BITES : rules.reaction(paper, law, t, p);
            }
        }

        private int turnOf(int p) {
            int turn = p * (TOP_TEMPER + 1) + paper.get(Scene.TEMPER, p);
            return turn >= 0 && turn < turns.length ? turns[turn] : BITES;
        }

        private void act(int t, int left, int depth, int balks) {
            if (left == 0) {
                keepRow(balks);
                return;
            }
            if (depth >= MAX_PROVINCES) {
                return;
            }
            paper.saveTo(stages, depth);
            for (int p = 0; p < MAX_PROVINCES; p++) {
                int did = turnOf(p);
                int balksThen = did == BALKS ? balks + 1 : balks;
                if ((left >> p & 1) == 0 || did == BITES || balksThen >= best) {
                    continue;
                }
                row[depth] = p;
                paper.react(did, t, p);
                act(t, left & ~(1 << p), depth + 1, balksThen);
                paper.loadFrom(stages, depth);
            }
        }

        int findSeats(World world) {
            provinces = world.scene.provinces();
            for (int limit = 0; limit <= provinces; limit++) {
                if (sits(world, 0, limit, 0)) {
                    keepRow(limit);
                    return limit;
                }
            }
            return NONE;
        }

        private boolean sits(World world, int p, int movesLeft, int taken) {
            if (p >= provinces || p >= MAX_PROVINCES) {
                return true;
            }
            for (int tub = 0; tub < TUBS; tub++) {
                int left = tub == world.scene.get(Scene.TUB, p) ? movesLeft : movesLeft - 1;
                if ((taken >> tub & 1) != 0 || left < 0 || besideFoe(world, p, tub)) {
                    continue;
                }
                row[p] = tub;
                if (sits(world, p + 1, left, taken | 1 << tub)) {
                    return true;
                }
            }
            return false;
        }

        private boolean besideFoe(World world, int p, int tub) {
            for (int q = 0; q < p && q < MAX_PROVINCES; q++) {
                if ((world.feudsOf(p) >> q & 1) != 0 && Scene.besideEachOther(tub, row[q])) {
                    return true;
                }
            }
            return false;
        }

        int findGoverned(World world) {
            Scene scene = world.scene;
            Program law = world.lawInForce();
            provinces = scene.provinces();
            Arrays.fill(used, 0);
            for (int p = 0; p < provinces && p < MAX_PROVINCES; p++) {
                may[p] = 0;
                for (int t = 0; t < scene.tamers(); t++) {
                    if (rules.loyal(scene, law, t, p) && !rules.barred(scene, law, t, p)) {
                        may[p] |= 1 << t;
                    }
                }
            }
            best = NONE;
            govern(0, 0);
            return best;
        }

        private void govern(int p, int ruled) {
            if (ruled + provinces - p <= best) {
                return;
            }
            if (p >= provinces || p >= MAX_PROVINCES) {
                keepRow(ruled);
                return;
            }
            for (int t = 0; t < MAX_TAMERS; t++) {
                if ((may[p] >> t & 1) != 0 && used[t] < TAMER_ROOM) {
                    row[p] = t;
                    used[t]++;
                    govern(p + 1, ruled + 1);
                    used[t]--;
                }
            }
            row[p] = NOBODY;
            govern(p + 1, ruled);
        }

        /** A province's loyalty hangs on the days on which it is fed alone, so each set of days is asked once. */
        int findCubs(World world, int t, int days) {
            provinces = world.scene.provinces();
            Arrays.fill(used, 0);
            for (int p = 0; p < provinces && p < MAX_PROVINCES; p++) {
                may[p] = 0;
                for (int fedOn = 0; fedOn < 1 << days; fedOn++) {
                    if (loyalLater(world, t, p, days, fedOn)) {
                        may[p] |= 1 << fedOn;
                    }
                }
            }
            best = NONE;
            choose(0, days);
            return best;
        }

        private boolean loyalLater(World world, int t, int p, int days, int fedOn) {
            paper.copyFrom(world.scene);
            for (int d = 0; d < days; d++) {
                if ((fedOn >> d & 1) != 0) {
                    paper.eat(t, p);
                }
                paper.change(Scene.HUNGER, p, 1, TOP_HUNGER);
            }
            return rules.loyal(paper, world.lawInForce(), t, p);
        }

        private void choose(int day, int days) {
            if (day >= days || day >= MAX_CUB_DAYS) {
                int loyal = loyalOfAll();
                if (loyal > best) {
                    keepRow(loyal);
                }
                return;
            }
            for (int p = 0; p < provinces && p < MAX_PROVINCES; p++) {
                row[day] = p;
                used[p] |= 1 << day;
                choose(day + 1, days);
                used[p] &= ~(1 << day);
            }
            row[day] = NOBODY;
            choose(day + 1, days);
        }

        private int loyalOfAll() {
            int loyal = 0;
            for (int p = 0; p < provinces && p < MAX_PROVINCES; p++) {
                loyal += may[p] >> used[p] & 1;
            }
            return loyal;
        }
    }
}
