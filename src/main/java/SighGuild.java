import java.util.Arrays;

/** A guild of sighs: see README.md; every number below is one of the document's. */
public final class SighGuild {
    public static final int BAD = -1, FULL = -2, FINDING = -3, STATE = -4, SPENT = -6, NONE = -9;

    /** The size of a ROW or a TEXT, the number of kept DEEDS, where there are none such. */
    private static final int MISSING = -1;
    private static final int NOTHING = 1, BEYOND = 2, UNLIKE = 3, NOUGHT = 4, SIZE = 5;
    private static final int ROWS = 6, ROW_SIZE = 40, TEXTS = 4, TEXT_SIZE = 60, KEPT = 3;
    private static final int MOST_SIGHERS = 5, MOST_ORDERS = 6, MOST_DEEDS = 40, MOST_PAIRS = 6;
    private static final int PLACES = 10, MOST_BREATH = 9, DEEPEST = 9, MOST_TUNE = 9;
    private static final int MOST_HOURS = 30, MOST_LOOSE = 20, MOST_TURNS = 2, MOST_LOTS = 20;
    private static final int MOST_GOLD = 66, PARTS = 12, COUNTS = 11, TELLS = 5;
    private static final int BLANK = 32, FIGURE = 48, ORDER_SIGN = 111;
    private static final int SIGHER_FIGURES = 2, ORDER_FIGURES = 3, DEPTH_FIGURE = 2;
    private static final int WALKING = 0, SIGHING = 1, RESTING = 2;
    private static final long LOT_TIMES = 48271L, LOT_MODULO = 2147483647L;

    private static final int SIGHER = 0, DEEP = 1, APPRENTICE = 2, FORGER = 3, MASTER = 4, POET = 5;
    private static final int[] LETTERS = {115, 100, 97, 102, 109, 112};
    /** What each KIND is a KIND of. */
    private static final int[] ABOVE = {NONE, SIGHER, SIGHER, SIGHER, DEEP, APPRENTICE};
    private static final int[] DEPTH_LIMIT = {DEEPEST, DEEPEST, 3, DEEPEST, DEEPEST, 6};

    private final Row[] rows = new Row[ROWS];
    private final Script[] texts = new Script[TEXTS];
    private Roll roll = new Roll();
    /** TEXTS are read into this one, so that a FAULT leaves the GUILD as it is. */
    private Roll spareRoll = new Roll();
    private final Standing now = new Standing();
    private final Standing aside = new Standing();
    private final Deeds deeds = new Deeds();
    private final Deeds[] kept = new Deeds[KEPT];
    private final Giving giving = new Giving();
    private final Round round = new Round();
    private int told = 0;
    private long chanceUpper = 0;
    private long chanceLower = 1;
    private int latestFinding = 0;
    private final int[] findingCounts = new int[SIZE + 1];

    public SighGuild() {
        for (int r = 0; r < rows.length; r++) {
            rows[r] = new Row();
        }
        for (int t = 0; t < texts.length; t++) {
            texts[t] = new Script();
        }
        for (int k = 0; k < kept.length; k++) {
            kept[k] = new Deeds();
            kept[k].many = MISSING;
        }
    }

    // ---- 1 rows, texts, guilds

    public int row(int r, int n) {
        Row row = rowOf(r);
        if (row == null || n > ROW_SIZE) {
            return BAD;
        }
        if (n < 0) {
            return refuse(SIZE);
        }
        row.renew(n);
        return n;
    }

    public int lay(int r, int i, int v) {
        Row row = rowOf(r);
        if (row == null) {
            return BAD;
        }
        if (row.isMissing()) {
            return refuse(NOTHING);
        }
        if (!row.has(i)) {
            return refuse(BEYOND);
        }
        told = row.ints[i];
        row.ints[i] = v;
        return 1;
    }

    public int at(int r, int i) {
        Row row = rowOf(r);
        if (row == null) {
            return BAD;
        }
        if (row.isMissing()) {
            return refuse(NOTHING);
        }
        if (!row.has(i)) {
            return refuse(BEYOND);
        }
        told = row.ints[i];
        return 1;
    }

    public int tear(int r) {
        Row row = rowOf(r);
        if (row == null) {
            return BAD;
        }
        if (row.isMissing()) {
            return refuse(NOTHING);
        }
        row.size = MISSING;
        return 1;
    }

    public int copy(int r, int i, int to, int j, int n) {
        Row from = rowOf(r);
        Row onto = rowOf(to);
        if (from == null || onto == null) {
            return BAD;
        }
        if (n < 0) {
            return refuse(SIZE);
        }
        if (from.isMissing() || onto.isMissing()) {
            return refuse(NOTHING);
        }
        if (!from.hasFrom(i, n) || !onto.hasFrom(j, n)) {
            return refuse(BEYOND);
        }
        System.arraycopy(from.ints, i, onto.ints, j, n);
        return 1;
    }

    public int mean(int r) {
        Row row = rowOf(r);
        if (row == null) {
            return BAD;
        }
        if (row.isMissing()) {
            return refuse(NOTHING);
        }
        if (row.size == 0) {
            return refuse(NOUGHT);
        }
        told = (int) (row.total() / row.size);
        return 1;
    }

    public int text(int t, int n) {
        Script text = textOf(t);
        if (text == null || n > TEXT_SIZE) {
            return BAD;
        }
        if (n < 0) {
            return refuse(SIZE);
        }
        text.renew(n);
        return n;
    }

    public int put(int t, int i, int v) {
        Script text = textOf(t);
        if (text == null) {
            return BAD;
        }
        if (text.isMissing()) {
            return refuse(NOTHING);
        }
        if (!text.has(i)) {
            return refuse(BEYOND);
        }
        int was = text.signs[i];
        text.signs[i] = (byte) v;
        return was + 1000;
    }

    public int fault(int t) {
        Script text = textOf(t);
        if (text == null) {
            return BAD;
        }
        if (text.isMissing()) {
            return refuse(NOTHING);
        }
        return spareRoll.readFrom(text);
    }

    public int guild(int t) {
        Script text = textOf(t);
        if (text == null) {
            return BAD;
        }
        if (text.isMissing()) {
            return refuse(NOTHING);
        }
        if (spareRoll.readFrom(text) != NONE) {
            return STATE;
        }
        Roll old = roll;
        roll = spareRoll;
        spareRoll = old;
        now.begin(roll);
        deeds.many = 0;
        for (int k = 0; k < kept.length; k++) {
            kept[k].many = MISSING;
        }
        return roll.orders;
    }

    public int sigher(int i, int what) {
        if (!roll.hasSigher(i) || what < 0 || what >= TELLS) {
            return BAD;
        }
        told = sigherTells(i, what);
        return 1;
    }

    public int order(int o, int what) {
        if (!roll.hasOrder(o) || what < 0 || what >= TELLS) {
            return BAD;
        }
        told = orderTells(o, what);
        return 1;
    }

    public int mark(int i, int kind) {
        if (!roll.hasSigher(i) || kind < DEEP || kind > POET) {
            return BAD;
        }
        if (!isOf(roll.kind[i], kind)) {
            return refuse(UNLIKE);
        }
        int sum = 0;
        for (int o = 0; o < roll.orders; o++) {
            sum += markOfOrder(i, kind, o);
        }
        return sum;
    }

    // ---- 2 deeds

    public int walk(int i, int place) {
        if (!roll.hasSigher(i) || !isPlace(place)) {
            return BAD;
        }
        int steps = Math.abs(now.place[i] - place);
        if (steps == 0) {
            return STATE;
        }
        if (deeds.lackRoomFor(1)) {
            return FULL;
        }
        enact(WALKING, i, place);
        return steps;
    }

    public int sigh(int i, int o) {
        if (!roll.hasSigher(i) || !roll.hasOrder(o)) {
            return BAD;
        }
        int breath = roll.breathFor(i, o);
        if (now.isDone(o) || now.place[i] != roll.house[o] || breath == NONE) {
            return STATE;
        }
        if (breath > now.breath[i]) {
            return SPENT;
        }
        if (deeds.lackRoomFor(1)) {
            return FULL;
        }
        enact(SIGHING, i, o);
        return now.gold;
    }

    public int rest(int i) {
        if (!roll.hasSigher(i)) {
            return BAD;
        }
        if (now.breath[i] >= MOST_BREATH) {
            return STATE;
        }
        if (deeds.lackRoomFor(1)) {
            return FULL;
        }
        enact(RESTING, i, 0);
        return now.breath[i];
    }

    public int undo(int n) {
        if (n < 0 || n > deeds.many) {
            return BAD;
        }
        int undone = deeds.many - n;
        if (undone > 0) {
            deeds.many = n;
            doAgain();
        }
        return undone;
    }

    public int keep(int k) {
        Deeds keeping = keptOf(k);
        if (keeping == null) {
            return BAD;
        }
        if (roll.sighers == 0) {
            return STATE;
        }
        keeping.takeOver(deeds);
        return keeping.many;
    }

    public int on(int k) {
        Deeds keeping = keptOf(k);
        if (keeping == null) {
            return BAD;
        }
        if (keeping.many == MISSING) {
            return refuse(NOTHING);
        }
        deeds.takeOver(keeping);
        doAgain();
        return deeds.many;
    }

    // ---- 3 orders to sighers

    public int takes(int i, int o) {
        if (!roll.hasSigher(i) || !roll.hasOrder(o)) {
            return BAD;
        }
        return roll.breathFor(i, o);
    }

    public int brings(int i, int o) {
        if (!roll.hasSigher(i) || !roll.hasOrder(o)) {
            return BAD;
        }
        return roll.goldFor(i, o);
    }

    public int give(int r) {
        return giveOut(r, true);
    }

    public int most(int r) {
        return giveOut(r, false);
    }

    public int plain() {
        if (roll.sighers == 0) {
            return STATE;
        }
        int before = Integer.bitCount(now.done);
        told = plainGold(0);
        return Integer.bitCount(aside.done) - before;
    }

    // ---- 4 rounds

    public int way(int i, int set) {
        if (!roll.hasSigher(i) || !roll.isSetOfOrders(set)) {
            return BAD;
        }
        return stepsThrough(now.place[i], set);
    }

    public int dusk(int i, int n, int r) {
        Row row = rowOf(r);
        if (!roll.hasSigher(i) || n < 0 || n > MOST_HOURS || row == null) {
            return BAD;
        }
        int gold = round.search(roll, now, i, n);
        row.renew(round.bestSize);
        System.arraycopy(round.bestPath, 0, row.ints, 0, round.bestSize);
        return gold;
    }

    public int hours(int i, int set) {
        if (!roll.hasSigher(i) || !roll.isSetOfOrders(set)) {
            return BAD;
        }
        int open = set & ~now.done;
        int breath = 0;
        for (int o = 0; o < roll.orders; o++) {
            if (holds(open, o)) {
                int each = roll.breathFor(i, o);
                if (each == NONE) {
                    return NONE;
                }
                breath += each;
            }
        }
        if (breath > now.breath[i]) {
            return NONE;
        }
        return stepsThrough(now.place[i], open) + Integer.bitCount(open);
    }

    // ---- 5 tune, a loose sigh

    public int pairs(int t) {
        if (t < 0 || t > MOST_TUNE) {
            return BAD;
        }
        int many = 0;
        int first = NONE;
        for (int i = 0; i < roll.sighers; i++) {
            for (int j = i + 1; j < roll.sighers; j++) {
                if (roll.areInTune(i, j, t)) {
                    first = many == 0 ? MOST_SIGHERS * i + j : first;
                    many++;
                }
            }
        }
        told = first;
        return many;
    }

    public int choir(int t) {
        if (t < 0 || t > MOST_TUNE) {
            return BAD;
        }
        if (roll.sighers == 0) {
            return STATE;
        }
        int best = 0;
        for (int set = 1; set < 1 << roll.sighers; set++) {
            if (Integer.bitCount(set) > Integer.bitCount(best) && roll.isChoir(set, t)) {
                best = set;
            }
        }
        told = best;
        return Integer.bitCount(best);
    }

    public int loose(int place, int depth, int n) {
        if (!isPlace(place) || depth < 1 || depth > DEEPEST || n < 0 || n > MOST_LOOSE) {
            return BAD;
        }
        int touched = 0;
        for (int hour = 0; hour <= n && hour < depth; hour++) {
            touched |= roll.ordersAt((place + hour) % PLACES);
        }
        return touched;
    }

    // ---- 6 who it can have been

    public int who(int r) {
        Row row = rowOf(r);
        if (row == null) {
            return BAD;
        }
        int wrong = findingOfPairs(row);
        if (wrong != 0) {
            return refuse(wrong);
        }
        int set = 0;
        for (int i = 0; i < roll.sighers; i++) {
            int breath = breathOfPairs(row, roll.kind[i]);
            if (breath != NONE && breath <= now.breath[i]) {
                set |= 1 << i;
            }
        }
        return set;
    }

    public int kinds(int i, int r) {
        Row row = rowOf(r);
        if (!roll.hasSigher(i) || row == null) {
            return BAD;
        }
        int wrong = findingOfPairs(row);
        if (wrong != 0) {
            return refuse(wrong);
        }
        int set = 0;
        for (int kind = SIGHER; kind <= POET; kind++) {
            int breath = breathOfPairs(row, kind);
            if (breath != NONE && breath <= now.breath[i]) {
                set |= 1 << kind;
            }
        }
        return set;
    }

    public int breaths(int i, int r) {
        Row row = rowOf(r);
        if (!roll.hasSigher(i) || row == null) {
            return BAD;
        }
        int wrong = findingOfPairs(row);
        if (wrong != 0) {
            return refuse(wrong);
        }
        int least = breathOfPairs(row, roll.kind[i]);
        if (least == NONE) {
            return 0;
        }
        int set = 0;
        for (int breath = least; breath <= MOST_BREATH; breath++) {
            set |= 1 << breath;
        }
        return set;
    }

    // ---- 7 by turns

    public int strike(int n) {
        if (n < 0 || n > MOST_TURNS) {
            return BAD;
        }
        if (roll.sighers == 0) {
            return STATE;
        }
        aside.takeOver(now);
        return guildTurn(n);
    }

    // ---- 8 chances, lots

    public int odds(int v, int p) {
        if (v < 0 || v > MOST_GOLD || p < 0 || p > PARTS) {
            return BAD;
        }
        if (roll.sighers == 0) {
            return STATE;
        }
        long sum = 0;
        for (int back = 0; back < 1 << roll.orders; back++) {
            if ((back & now.done) == 0 && plainGold(back) >= v) {
                sum += weightOf(back, p);
            }
        }
        tellChance(sum, weightOfAll());
        return 1;
    }

    public int mid(int p) {
        if (p < 0 || p > PARTS) {
            return BAD;
        }
        if (roll.sighers == 0) {
            return STATE;
        }
        long sum = 0;
        for (int back = 0; back < 1 << roll.orders; back++) {
            if ((back & now.done) == 0) {
                sum += weightOf(back, p) * plainGold(back);
            }
        }
        tellChance(sum, weightOfAll());
        return 1;
    }

    public int lots(int n, int seed) {
        if (n < 1 || n > MOST_LOTS || seed < 1 || seed >= LOT_MODULO) {
            return BAD;
        }
        if (roll.sighers == 0) {
            return STATE;
        }
        if (deeds.lackRoomFor(n)) {
            return FULL;
        }
        long lot = seed;
        for (int k = 0; k < n; k++) {
            lot = lot * LOT_TIMES % LOT_MODULO;
            enactLot((int) lot);
        }
        return now.gold;
    }

    // ---- 9 what is told

    public int asked() {
        return told;
    }

    public long upper() {
        return chanceUpper;
    }

    public long lower() {
        return chanceLower;
    }

    public int count(int what) {
        if (what < 0 || what >= COUNTS) {
            return BAD;
        }
        return countOf(what);
    }

    public int finding() {
        return latestFinding;
    }

    public int findings(int f) {
        if (f < NOTHING || f > SIZE) {
            return BAD;
        }
        return findingCounts[f];
    }

    public long digest() {
        long h = 17;
        for (int what = 0; what < COUNTS; what++) {
            h = 31 * h + countOf(what);
        }
        for (int i = 0; i < roll.sighers; i++) {
            for (int what = 0; what < TELLS; what++) {
                h = 31 * h + sigherTells(i, what);
            }
        }
        for (int o = 0; o < roll.orders; o++) {
            for (int what = 0; what < TELLS; what++) {
                h = 31 * h + orderTells(o, what);
            }
        }
        for (int k = 0; k < kept.length; k++) {
            h = 31 * h + kept[k].many;
        }
        for (int r = 0; r < rows.length; r++) {
            h = rows[r].digestFrom(h);
        }
        for (int t = 0; t < texts.length; t++) {
            h = texts[t].digestFrom(h);
        }
        return h;
    }

    // ---- what the calls share

    private Row rowOf(int r) {
        return r >= 0 && r < rows.length ? rows[r] : null;
    }

    private Script textOf(int t) {
        return t >= 0 && t < texts.length ? texts[t] : null;
    }

    private Deeds keptOf(int k) {
        return k >= 0 && k < kept.length ? kept[k] : null;
    }

    private int refuse(int which) {
        latestFinding = which;
        if (which >= 0 && which < findingCounts.length) {
            findingCounts[which]++;
        }
        return FINDING;
    }

    private static boolean isPlace(int place) {
        return place >= 0 && place < PLACES;
    }

    private static boolean holds(int set, int member) {
        return (set >> member & 1) == 1;
    }

    private static boolean isKind(int kind) {
        return kind >= SIGHER && kind <= POET;
    }

    /** Whether a KIND is another one, or a KIND of it. */
    private static boolean isOf(int kind, int wanted) {
        int is = kind;
        for (int up = 0; up <= POET && isKind(is); up++) {
            if (is == wanted) {
                return true;
            }
            is = ABOVE[is];
        }
        return false;
    }

    private static boolean isTooDeep(int kind, int depth) {
        return isKind(kind) && depth > DEPTH_LIMIT[kind];
    }

    /** The BREATH that a DEPTH TAKES of a KIND; NONE: it is too deep. */
    private static int breathByKind(int kind, int depth) {
        if (isTooDeep(kind, depth)) {
            return NONE;
        }
        if (isOf(kind, FORGER)) {
            return 0;
        }
        return isOf(kind, DEEP) ? Math.max(1, depth / 2) : depth;
    }

    private static int goldByKind(int kind, int gold) {
        switch (kind) {
            case FORGER:
                return gold / 2;
            case MASTER:
                return gold + 2;
            case POET:
                return Math.max(0, gold - 1);
            default:
                return gold;
        }
    }

    private int sigherTells(int i, int what) {
        if (!roll.hasSigher(i)) {
            return 0;
        }
        switch (what) {
            case 0:
                return roll.kind[i];
            case 1:
                return now.breath[i];
            case 2:
                return roll.tune[i];
            case 3:
                return now.place[i];
            default:
                return ordersFor(i);
        }
    }

    private int orderTells(int o, int what) {
        if (!roll.hasOrder(o)) {
            return 0;
        }
        switch (what) {
            case 0:
                return roll.house[o];
            case 1:
                return roll.depth[o];
            case 2:
                return roll.gold[o];
            case 3:
                return now.isDone(o) ? 1 : 0;
            default:
                return sighersFor(o);
        }
    }

    private int ordersFor(int i) {
        int set = 0;
        for (int o = 0; o < roll.orders; o++) {
            if (now.isAble(roll, i, o)) {
                set |= 1 << o;
            }
        }
        return set;
    }

    private int sighersFor(int o) {
        int set = 0;
        for (int i = 0; i < roll.sighers; i++) {
            if (now.isAble(roll, i, o)) {
                set |= 1 << i;
            }
        }
        return set;
    }

    /** What one ORDER adds to the mark of a SIGHER as one of a KIND. */
    private int markOfOrder(int i, int kind, int o) {
        int depth = roll.depth[o];
        boolean tooDeep = isTooDeep(roll.kind[i], depth);
        switch (kind) {
            case DEEP:
                return depth - roll.breathFor(i, o);
            case APPRENTICE:
                return tooDeep ? 1 : 0;
            case FORGER:
                return roll.gold[o] - roll.goldFor(i, o);
            case MASTER:
                return now.isDone(o) ? 0 : 1;
            default:
                return !tooDeep && isTooDeep(APPRENTICE, depth) ? 1 : 0;
        }
    }

    private int countOf(int what) {
        switch (what) {
            case 0:
                return roll.sighers;
            case 1:
                return roll.orders;
            case 2:
                return deeds.many;
            case 3:
                return now.gold;
            case 4:
                return now.done;
            case 5:
                return now.allBreath(roll);
            case 6:
                return roll.countOfKind(DEEP);
            case 7:
                return roll.countOfKind(APPRENTICE);
            case 8:
                return countRows();
            case 9:
                return countTexts();
            default:
                return countKept();
        }
    }

    private int countRows() {
        int there = 0;
        for (int r = 0; r < rows.length; r++) {
            there += rows[r].isMissing() ? 0 : 1;
        }
        return there;
    }

    private int countTexts() {
        int there = 0;
        for (int t = 0; t < texts.length; t++) {
            there += texts[t].isMissing() ? 0 : 1;
        }
        return there;
    }

    private int countKept() {
        int there = 0;
        for (int k = 0; k < kept.length; k++) {
            there += kept[k].many == MISSING ? 0 : 1;
        }
        return there;
    }

    private void enact(int what, int i, int target) {
        int deed = Deeds.codeOf(what, i, target);
        deeds.write(deed);
        now.perform(roll, deed);
    }

    /** All DEEDS done anew from the start: a GUILD is nothing but what its DEEDS made of it. */
    private void doAgain() {
        now.begin(roll);
        for (int d = 0; d < deeds.many && d < MOST_DEEDS; d++) {
            now.perform(roll, deeds.codes[d]);
        }
    }

    private void enactLot(int lot) {
        if (lot < 0 || roll.sighers < 1 || roll.orders < 1) {
            return;
        }
        int i = lot % roll.sighers;
        int o = lot / 64 % roll.orders;
        if (lot / 8 % 4 == 0) {
            enact(RESTING, i, 0);
        } else if (now.isAble(roll, i, o) && now.place[i] == roll.house[o]) {
            enact(SIGHING, i, o);
        } else {
            enact(WALKING, i, roll.house[o]);
        }
    }

    private int giveOut(int r, boolean forGold) {
        Row row = rowOf(r);
        if (row == null) {
            return BAD;
        }
        if (roll.sighers == 0) {
            return STATE;
        }
        int best = giving.search(roll, now, forGold);
        row.renew(roll.orders);
        System.arraycopy(giving.choice, 0, row.ints, 0, roll.orders);
        return best;
    }

    /** The GOLD had by plain() without the ORDERS of a set; aside is left as it then would be. */
    private int plainGold(int without) {
        aside.takeOver(now);
        aside.gold = 0;
        for (int o = 0; o < roll.orders; o++) {
            for (int i = 0; i < roll.sighers && !holds(without, o); i++) {
                if (aside.isAble(roll, i, o)) {
                    aside.sighOrder(roll, i, o);
                }
            }
        }
        return aside.gold;
    }

    private long weightOf(int back, int p) {
        long weight = 1;
        for (int o = 0; o < roll.orders; o++) {
            if (!now.isDone(o)) {
                weight *= holds(back, o) ? p : PARTS - p;
            }
        }
        return weight;
    }

    private long weightOfAll() {
        long weight = 1;
        for (int o = 0; o < roll.orders; o++) {
            if (!now.isDone(o)) {
                weight *= PARTS;
            }
        }
        return weight;
    }

    private void tellChance(long above, long below) {
        long a = below;
        long b = above;
        // Euclid's steps halve b at least every second time: 128 are enough for any two longs.
        for (int k = 0; k < 128 && b != 0; k++) {
            long left = a % b;
            a = b;
            b = left;
        }
        if (a > 0) {
            chanceUpper = above / a;
            chanceLower = below / a;
        }
    }

    /** Along a street only the outermost houses matter: to the nearer end first, then to the other. */
    private int stepsThrough(int from, int set) {
        int low = from;
        int high = from;
        for (int o = 0; o < roll.orders; o++) {
            if (holds(set, o)) {
                low = Math.min(low, roll.house[o]);
                high = Math.max(high, roll.house[o]);
            }
        }
        return high - low + Math.min(high - from, from - low);
    }

    private int findingOfPairs(Row row) {
        if (row.isMissing()) {
            return NOTHING;
        }
        if (row.size % 2 != 0 || row.size > 2 * MOST_PAIRS) {
            return SIZE;
        }
        for (int k = 0; k + 1 < row.size; k += 2) {
            int breath = row.ints[k + 1];
            if (!roll.hasOrder(row.ints[k]) || breath < 0 || breath > MOST_BREATH) {
                return UNLIKE;
            }
        }
        return 0;
    }

    /** All BREATH that these took, if one of the KIND did them; NONE: it can't have. */
    private int breathOfPairs(Row row, int kind) {
        int sum = 0;
        for (int k = 0; k + 1 < row.size; k += 2) {
            int o = row.ints[k];
            int breath = row.ints[k + 1];
            if (!roll.hasOrder(o) || breathByKind(kind, roll.depth[o]) != breath) {
                return NONE;
            }
            sum += breath;
        }
        return sum;
    }

    private int guildTurn(int left) {
        if (left <= 0 || left > MOST_TURNS) {
            return 0;
        }
        int best = strikeTurn(left, 0);
        for (int i = 0; i < roll.sighers; i++) {
            for (int o = 0; o < roll.orders; o++) {
                if (aside.isAble(roll, i, o)) {
                    best = Math.max(best, goldOfTurn(i, o, left, best));
                }
            }
        }
        return best;
    }

    /** The GOLD by an ORDER and what follows; it need not be told truly where it is no more than the best. */
    private int goldOfTurn(int i, int o, int left, int best) {
        int gold = roll.goldFor(i, o);
        if (left <= 1) {
            return gold;
        }
        int breath = aside.breath[i];
        int done = aside.done;
        aside.sighOrder(roll, i, o);
        gold += strikeTurn(left, best - gold);
        aside.breath[i] = breath;
        aside.done = done;
        return gold;
    }

    /** Once the guild is left with no more than enough, a better strike is not looked for. */
    private int strikeTurn(int left, int enough) {
        if (left <= 1) {
            return 0;
        }
        int least = guildTurn(left - 1);
        for (int i = 0; i < roll.sighers && least > enough; i++) {
            int breath = aside.breath[i];
            aside.breath[i] = 0;
            least = Math.min(least, guildTurn(left - 1));
            aside.breath[i] = breath;
        }
        return least;
    }

    /** A ROW: its ints are made once, so that calls make no arrays. */
    private static final class Row {
        private final int[] ints = new int[ROW_SIZE];
        private int size = MISSING;

        private boolean isMissing() {
            return size == MISSING;
        }

        private boolean has(int i) {
            return i >= 0 && i < size;
        }

        private boolean hasFrom(int i, int n) {
            return i >= 0 && i <= size && n <= size - i;
        }

        private void renew(int n) {
            Arrays.fill(ints, 0);
            size = n;
        }

        private long total() {
            long sum = 0;
            for (int i = 0; i < size; i++) {
                sum += ints[i];
            }
            return sum;
        }

        private long digestFrom(long start) {
            long h = 31 * start + size;
            for (int i = 0; i < size; i++) {
                h = 31 * h + ints[i];
            }
            return h;
        }
    }

    /** A TEXT. */
    private static final class Script {
        private final byte[] signs = new byte[TEXT_SIZE];
        private int size = MISSING;

        private boolean isMissing() {
            return size == MISSING;
        }

        private boolean has(int i) {
            return i >= 0 && i < size;
        }

        private void renew(int n) {
            Arrays.fill(signs, (byte) BLANK);
            size = n;
        }

        private int signAt(int i) {
            return has(i) ? signs[i] : NONE;
        }

        /** The figure at a place; NONE: there is none. */
        private int figureAt(int i) {
            int figure = signAt(i) - FIGURE;
            return figure >= 0 && figure <= 9 ? figure : NONE;
        }

        private long digestFrom(long start) {
            long h = 31 * start + size;
            for (int i = 0; i < size; i++) {
                h = 31 * h + signs[i];
            }
            return h;
        }
    }

    /** What a TEXT says of a GUILD, and what no DEED changes. */
    private static final class Roll {
        private int sighers = 0;
        private int orders = 0;
        private final int[] kind = new int[MOST_SIGHERS];
        private final int[] breath = new int[MOST_SIGHERS];
        private final int[] tune = new int[MOST_SIGHERS];
        private final int[] house = new int[MOST_ORDERS];
        private final int[] depth = new int[MOST_ORDERS];
        private final int[] gold = new int[MOST_ORDERS];
        /** For each SIGHER and each ORDER: looked up far oftener than read. */
        private final int[] breathTable = new int[MOST_SIGHERS * MOST_ORDERS];
        private final int[] goldTable = new int[MOST_SIGHERS * MOST_ORDERS];

        private boolean hasSigher(int i) {
            return i >= 0 && i < sighers;
        }

        private boolean hasOrder(int o) {
            return o >= 0 && o < orders;
        }

        private boolean isSetOfOrders(int set) {
            return set >= 0 && set < 1 << orders;
        }

        private int breathFor(int i, int o) {
            return hasSigher(i) && hasOrder(o) ? breathTable[i * MOST_ORDERS + o] : NONE;
        }

        private int goldFor(int i, int o) {
            return hasSigher(i) && hasOrder(o) ? goldTable[i * MOST_ORDERS + o] : 0;
        }

        private int countOfKind(int wanted) {
            int many = 0;
            for (int i = 0; i < sighers; i++) {
                many += isOf(kind[i], wanted) ? 1 : 0;
            }
            return many;
        }

        private boolean areInTune(int i, int j, int t) {
            return hasSigher(i) && hasSigher(j) && Math.abs(tune[i] - tune[j]) <= t;
        }

        private boolean isChoir(int set, int t) {
            for (int i = 0; i < sighers; i++) {
                for (int j = i + 1; j < sighers; j++) {
                    if (holds(set, i) && holds(set, j) && !areInTune(i, j, t)) {
                        return false;
                    }
                }
            }
            return true;
        }

        private int ordersAt(int place) {
            int set = 0;
            for (int o = 0; o < orders; o++) {
                if (house[o] == place) {
                    set |= 1 << o;
                }
            }
            return set;
        }

        /** Reads a TEXT from its start: its FAULT, or NONE. */
        private int readFrom(Script text) {
            sighers = 0;
            orders = 0;
            int at = 0;
            for (int turn = 0; turn < TEXT_SIZE && at < text.size; turn++) {
                if (text.signAt(at) == BLANK) {
                    at++;
                } else {
                    int fault = faultOfItem(text, at);
                    if (fault != NONE) {
                        return fault;
                    }
                    at += takeItem(text, at);
                }
            }
            return orders > 0 ? NONE : text.size;
        }

        private int faultOfItem(Script text, int at) {
            if (!mayCome(text.signAt(at))) {
                return at;
            }
            boolean isOrder = text.signAt(at) == ORDER_SIGN;
            int figures = isOrder ? ORDER_FIGURES : SIGHER_FIGURES;
            for (int f = 1; f <= figures; f++) {
                int least = isOrder && f == DEPTH_FIGURE ? 1 : 0;
                if (text.figureAt(at + f) < least) {
                    return Math.min(at + f, text.size);
                }
            }
            return NONE;
        }

        private boolean mayCome(int sign) {
            if (sign == ORDER_SIGN) {
                return sighers > 0 && orders < MOST_ORDERS;
            }
            return kindOf(sign) != NONE && orders == 0 && sighers < MOST_SIGHERS;
        }

        private static int kindOf(int sign) {
            for (int k = 0; k < LETTERS.length; k++) {
                if (LETTERS[k] == sign) {
                    return k;
                }
            }
            return NONE;
        }

        /** Takes in an item that has no FAULT: how many places it has. */
        private int takeItem(Script text, int at) {
            if (text.signAt(at) == ORDER_SIGN) {
                takeOrder(text, at);
                return 1 + ORDER_FIGURES;
            }
            takeSigher(text, at);
            return 1 + SIGHER_FIGURES;
        }

        private void takeSigher(Script text, int at) {
            if (sighers < MOST_SIGHERS) {
                kind[sighers] = kindOf(text.signAt(at));
                breath[sighers] = text.figureAt(at + 1);
                tune[sighers] = text.figureAt(at + 2);
                sighers++;
            }
        }

        /** All SIGHERS are known by now, so what it is to each of them can be told here. */
        private void takeOrder(Script text, int at) {
            if (orders < MOST_ORDERS) {
                house[orders] = text.figureAt(at + 1);
                depth[orders] = text.figureAt(at + 2);
                gold[orders] = text.figureAt(at + 3);
                for (int i = 0; i < sighers; i++) {
                    breathTable[i * MOST_ORDERS + orders] = breathByKind(kind[i], depth[orders]);
                    goldTable[i * MOST_ORDERS + orders] = goldByKind(kind[i], gold[orders]);
                }
                orders++;
            }
        }
    }

    /** What DEEDS change: now, or aside in a trial. */
    private static final class Standing {
        private final int[] breath = new int[MOST_SIGHERS];
        private final int[] place = new int[MOST_SIGHERS];
        private int done = 0;
        private int gold = 0;

        private void begin(Roll roll) {
            System.arraycopy(roll.breath, 0, breath, 0, MOST_SIGHERS);
            Arrays.fill(place, 0);
            done = 0;
            gold = 0;
        }

        private void takeOver(Standing other) {
            System.arraycopy(other.breath, 0, breath, 0, MOST_SIGHERS);
            System.arraycopy(other.place, 0, place, 0, MOST_SIGHERS);
            done = other.done;
            gold = other.gold;
        }

        private boolean isDone(int o) {
            return holds(done, o);
        }

        private boolean isAble(Roll roll, int i, int o) {
            if (!roll.hasSigher(i) || isDone(o)) {
                return false;
            }
            int each = roll.breathFor(i, o);
            return each != NONE && each <= breath[i];
        }

        private int allBreath(Roll roll) {
            int sum = 0;
            for (int i = 0; i < roll.sighers; i++) {
                sum += breath[i];
            }
            return sum;
        }

        private void sighOrder(Roll roll, int i, int o) {
            if (isAble(roll, i, o)) {
                breath[i] -= roll.breathFor(i, o);
                gold += roll.goldFor(i, o);
                done |= 1 << o;
            }
        }

        private void perform(Roll roll, int deed) {
            int i = Deeds.sigherOf(deed);
            if (!roll.hasSigher(i)) {
                return;
            }
            switch (Deeds.whatOf(deed)) {
                case WALKING:
                    place[i] = Deeds.targetOf(deed);
                    break;
                case SIGHING:
                    sighOrder(roll, i, Deeds.targetOf(deed));
                    break;
                default:
                    breath[i] = Math.min(MOST_BREATH, breath[i] + 2);
                    break;
            }
        }
    }

    /** DEEDS, a number each (what it is, the SIGHER, the PLACE or ORDER): a figure for each of the three. */
    private static final class Deeds {
        private final int[] codes = new int[MOST_DEEDS];
        private int many = 0;

        private static int codeOf(int what, int i, int target) {
            return what * 100 + i * 10 + target;
        }

        private static int whatOf(int code) {
            return code / 100;
        }

        private static int sigherOf(int code) {
            return code / 10 % 10;
        }

        private static int targetOf(int code) {
            return code % 10;
        }

        private boolean lackRoomFor(int more) {
            return many + more > MOST_DEEDS;
        }

        private void write(int code) {
            if (many >= 0 && many < MOST_DEEDS) {
                codes[many] = code;
                many++;
            }
        }

        private void takeOver(Deeds other) {
            System.arraycopy(other.codes, 0, codes, 0, MOST_DEEDS);
            many = other.many;
        }
    }

    /** The search of give() and most(). */
    private static final class Giving {
        private final int[] choice = new int[MOST_ORDERS];
        private final int[] spare = new int[MOST_SIGHERS];
        /** No more than this can come of an ORDER and those behind it: what can't reach the best is left. */
        private final int[] bound = new int[MOST_ORDERS + 1];
        private Roll roll = null;
        private int done = 0;
        private boolean forGold = false;
        private int best = 0;

        private int search(Roll members, Standing from, boolean gold) {
            roll = members;
            done = from.done;
            forGold = gold;
            best = -1;
            System.arraycopy(from.breath, 0, spare, 0, MOST_SIGHERS);
            Arrays.fill(choice, NONE);
            setBounds();
            climb(0, 0);
            settle(0, 0);
            return best;
        }

        private void setBounds() {
            Arrays.fill(bound, 0);
            for (int o = MOST_ORDERS - 1; o >= 0; o--) {
                int top = 0;
                for (int i = 0; i < MOST_SIGHERS; i++) {
                    top = fits(i, o) ? Math.max(top, worth(i, o)) : top;
                }
                bound[o] = bound[o + 1] + top;
            }
        }

        private boolean fits(int i, int o) {
            if (roll == null || !roll.hasSigher(i) || holds(done, o)) {
                return false;
            }
            int each = roll.breathFor(i, o);
            return each != NONE && each <= spare[i];
        }

        private int worth(int i, int o) {
            return forGold && roll != null ? roll.goldFor(i, o) : 1;
        }

        /** Finds the best; SIGHERS ahead of none, so that the bound soon tells. */
        private void climb(int o, int had) {
            if (roll == null || o < 0 || o >= roll.orders) {
                best = Math.max(best, had);
                return;
            }
            if (had + bound[o] <= best) {
                return;
            }
            for (int i = 0; i < roll.sighers; i++) {
                if (fits(i, o)) {
                    int each = roll.breathFor(i, o);
                    spare[i] -= each;
                    climb(o + 1, had + worth(i, o));
                    spare[i] += each;
                }
            }
            climb(o + 1, had);
        }

        /** Leaves in choice the first row that has the best. */
        private boolean settle(int o, int had) {
            if (roll == null || o < 0 || o >= roll.orders) {
                return had >= best;
            }
            if (had + bound[o] < best) {
                return false;
            }
            choice[o] = NONE;
            boolean found = settle(o + 1, had);
            for (int i = 0; i < roll.sighers && !found; i++) {
                if (fits(i, o)) {
                    int each = roll.breathFor(i, o);
                    choice[o] = i;
                    spare[i] -= each;
                    found = settle(o + 1, had + worth(i, o));
                    spare[i] += each;
                }
            }
            return found;
        }
    }

    /** The search of dusk(). */
    private static final class Round {
        private final int[] path = new int[MOST_ORDERS];
        private final int[] bestPath = new int[MOST_ORDERS];
        private int bestSize = 0;
        private int bestGold = 0;
        private Roll roll = null;
        private int walker = 0;

        private int search(Roll members, Standing from, int i, int hoursLeft) {
            bestSize = 0;
            bestGold = 0;
            roll = members;
            walker = i;
            if (members.hasSigher(i)) {
                goOn(0, from.place[i], hoursLeft, from.breath[i], 0, from.done);
            }
            return bestGold;
        }

        /** Rows come in their order, so the first of the best is the one that stays. */
        private void goOn(int size, int place, int hoursLeft, int breath, int gold, int done) {
            if (gold > bestGold) {
                bestGold = gold;
                bestSize = size;
                System.arraycopy(path, 0, bestPath, 0, MOST_ORDERS);
            }
            if (roll == null || size < 0 || size >= MOST_ORDERS) {
                return;
            }
            for (int o = 0; o < roll.orders; o++) {
                int each = roll.breathFor(walker, o);
                int time = Math.abs(roll.house[o] - place) + 1;
                if (!holds(done, o) && each != NONE && each <= breath && time <= hoursLeft) {
                    path[size] = o;
                    goOn(size + 1, roll.house[o], hoursLeft - time, breath - each,
                            gold + roll.goldFor(walker, o), done | 1 << o);
                }
            }
        }
    }
}
