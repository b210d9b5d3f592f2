import java.math.BigInteger;
import java.util.ArrayList;
import java.util.Arrays;
import java.util.List;
import java.util.regex.Matcher;
import java.util.regex.Pattern;

/**
 * The document written a second time, as plainly as can be, to hold the class against: KINDS are classes, every
 * DEED leaves a whole new Hall, and all searches try everything there is.
 */
public final class Model {
    private static final int BAD = -1, FULL = -2, FINDING = -3, STATE = -4, SPENT = -6, NONE = -9;
    private static final Pattern WHOLE = Pattern.compile(" *([sdafmp][0-9][0-9] *){1,5}(o[0-9][1-9][0-9] *){1,6}");
    private static final Pattern ITEM = Pattern.compile("([sdafmp])([0-9])([0-9])|o([0-9])([1-9])([0-9])");

    private static class Sigher {
        int breath0;
        int tune;

        int kind() {
            return 0;
        }

        boolean reaches(int depth) {
            return true;
        }

        int takesOf(int depth) {
            return depth;
        }

        int bringsOf(int gold) {
            return gold;
        }
    }

    private static class Deep extends Sigher {
        @Override int kind() {
            return 1;
        }

        @Override int takesOf(int depth) {
            return depth < 2 ? 1 : depth / 2;
        }
    }

    private static class Apprentice extends Sigher {
        @Override int kind() {
            return 2;
        }

        @Override boolean reaches(int depth) {
            return depth <= 3;
        }
    }

    private static final class Forger extends Sigher {
        @Override int kind() {
            return 3;
        }

        @Override int takesOf(int depth) {
            return 0;
        }

        @Override int bringsOf(int gold) {
            return gold / 2;
        }
    }

    private static final class Master extends Deep {
        @Override int kind() {
            return 4;
        }

        @Override int bringsOf(int gold) {
            return gold + 2;
        }
    }

    private static final class Poet extends Apprentice {
        @Override int kind() {
            return 5;
        }

        @Override boolean reaches(int depth) {
            return depth <= 6;
        }

        @Override int bringsOf(int gold) {
            return gold == 0 ? 0 : gold - 1;
        }
    }

    private record Order(int place, int depth, int gold) { }

    /** How things stand between two DEEDS. */
    private static final class Hall {
        final int[] breath;
        final int[] place;
        final boolean[] done;
        int gold;

        Hall(int[] breath, int[] place, boolean[] done, int gold) {
            this.breath = breath.clone();
            this.place = place.clone();
            this.done = done.clone();
            this.gold = gold;
        }

        Hall twin() {
            return new Hall(breath, place, done, gold);
        }
    }

    private final int[][] rows = new int[6][];
    private final byte[][] texts = new byte[4][];
    private List<Sigher> sighers = new ArrayList<>();
    private List<Order> orders = new ArrayList<>();
    /** The Hall at first, then behind each DEED. */
    private List<Hall> halls = new ArrayList<>(List.of(new Hall(new int[0], new int[0], new boolean[0], 0)));
    private final List<List<Hall>> kept = new ArrayList<>(Arrays.asList(null, null, null));
    private int asked;
    private long upper;
    private long lower = 1;
    private int finding;
    private final int[] findings = new int[6];

    private int find(int which) {
        finding = which;
        findings[which]++;
        return FINDING;
    }

    private Hall hall() {
        return halls.get(halls.size() - 1);
    }

    private int deeds() {
        return halls.size() - 1;
    }

    private static boolean in(int v, int low, int high) {
        return low <= v && v <= high;
    }

    private boolean isSigher(int i) {
        return in(i, 0, sighers.size() - 1);
    }

    private boolean isOrder(int o) {
        return in(o, 0, orders.size() - 1);
    }

    public int row(int r, int n) {
        if (!in(r, 0, 5) || n > 40) {
            return BAD;
        }
        try {
            rows[r] = new int[n];
        } catch (NegativeArraySizeException e) {
            return find(5);
        }
        return n;
    }

    public int lay(int r, int i, int v) {
        if (!in(r, 0, 5)) {
            return BAD;
        }
        try {
            int was = rows[r][i];
            rows[r][i] = v;
            asked = was;
        } catch (NullPointerException e) {
            return find(1);
        } catch (ArrayIndexOutOfBoundsException e) {
            return find(2);
        }
        return 1;
    }

    public int at(int r, int i) {
        if (!in(r, 0, 5)) {
            return BAD;
        }
        try {
            asked = rows[r][i];
        } catch (NullPointerException e) {
            return find(1);
        } catch (ArrayIndexOutOfBoundsException e) {
            return find(2);
        }
        return 1;
    }

    public int tear(int r) {
        if (!in(r, 0, 5)) {
            return BAD;
        }
        if (rows[r] == null) {
            return find(1);
        }
        rows[r] = null;
        return 1;
    }

    public int copy(int r, int i, int to, int j, int n) {
        if (!in(r, 0, 5) || !in(to, 0, 5)) {
            return BAD;
        }
        if (n < 0) {
            return find(5);
        }
        try {
            System.arraycopy(rows[r], i, rows[to], j, n);
        } catch (NullPointerException e) {
            return find(1);
        } catch (ArrayIndexOutOfBoundsException e) {
            return find(2);
        }
        return 1;
    }

    public int mean(int r) {
        if (!in(r, 0, 5)) {
            return BAD;
        }
        if (rows[r] == null) {
            return find(1);
        }
        if (rows[r].length == 0) {
            return find(4);
        }
        BigInteger sum = BigInteger.ZERO;
        for (int v : rows[r]) {
            sum = sum.add(BigInteger.valueOf(v));
        }
        asked = sum.divide(BigInteger.valueOf(rows[r].length)).intValueExact();
        return 1;
    }

    public int text(int t, int n) {
        if (!in(t, 0, 3) || n > 60) {
            return BAD;
        }
        if (n < 0) {
            return find(5);
        }
        texts[t] = " ".repeat(n).getBytes(java.nio.charset.StandardCharsets.ISO_8859_1);
        return n;
    }

    public int put(int t, int i, int v) {
        if (!in(t, 0, 3)) {
            return BAD;
        }
        if (texts[t] == null) {
            return find(1);
        }
        if (!in(i, 0, texts[t].length - 1)) {
            return find(2);
        }
        int was = texts[t][i] + 1000;
        texts[t][i] = (byte) v;
        return was;
    }

    private static String said(byte[] text) {
        return new String(text, java.nio.charset.StandardCharsets.ISO_8859_1);
    }

    /** The first place up to which the text could still become a GUILD, but not with the sign there. */
    private static int faultOf(String text) {
        for (int n = 1; n <= text.length(); n++) {
            Matcher m = WHOLE.matcher(text.substring(0, n));
            if (!m.matches() && !m.hitEnd()) {
                return n - 1;
            }
        }
        return WHOLE.matcher(text).matches() ? NONE : text.length();
    }

    public int fault(int t) {
        if (!in(t, 0, 3)) {
            return BAD;
        }
        return texts[t] == null ? find(1) : faultOf(said(texts[t]));
    }

    private static Sigher sworn(char letter) {
        switch (letter) {
            case 's': return new Sigher();
            case 'd': return new Deep();
            case 'a': return new Apprentice();
            case 'f': return new Forger();
            case 'm': return new Master();
            default: return new Poet();
        }
    }

    public int guild(int t) {
        if (!in(t, 0, 3)) {
            return BAD;
        }
        if (texts[t] == null) {
            return find(1);
        }
        if (faultOf(said(texts[t])) != NONE) {
            return STATE;
        }
        sighers = new ArrayList<>();
        orders = new ArrayList<>();
        Matcher m = ITEM.matcher(said(texts[t]));
        while (m.find()) {
            if (m.group(1) != null) {
                Sigher s = sworn(m.group(1).charAt(0));
                s.breath0 = Integer.parseInt(m.group(2));
                s.tune = Integer.parseInt(m.group(3));
                sighers.add(s);
            } else {
                orders.add(new Order(Integer.parseInt(m.group(4)), Integer.parseInt(m.group(5)),
                        Integer.parseInt(m.group(6))));
            }
        }
        int[] breath = sighers.stream().mapToInt(s -> s.breath0).toArray();
        halls = new ArrayList<>(List.of(new Hall(breath, new int[breath.length], new boolean[orders.size()], 0)));
        for (int k = 0; k < 3; k++) {
            kept.set(k, null);
        }
        return orders.size();
    }

    private boolean can(Hall h, int i, int o) {
        Sigher s = sighers.get(i);
        int depth = orders.get(o).depth();
        return !h.done[o] && s.reaches(depth) && h.breath[i] >= s.takesOf(depth);
    }

    private int gold(int i, int o) {
        return sighers.get(i).bringsOf(orders.get(o).gold());
    }

    private Hall sighed(Hall h, int i, int o) {
        Hall next = h.twin();
        next.breath[i] -= sighers.get(i).takesOf(orders.get(o).depth());
        next.gold += gold(i, o);
        next.done[o] = true;
        return next;
    }

    private int ofSigher(int i, int what) {
        int cans = 0;
        for (int o = 0; o < orders.size(); o++) {
            cans += can(hall(), i, o) ? 1 << o : 0;
        }
        return new int[] {sighers.get(i).kind(), hall().breath[i], sighers.get(i).tune, hall().place[i], cans}[what];
    }

    private int ofOrder(int o, int what) {
        int cans = 0;
        for (int i = 0; i < sighers.size(); i++) {
            cans += can(hall(), i, o) ? 1 << i : 0;
        }
        Order order = orders.get(o);
        return new int[] {order.place(), order.depth(), order.gold(), hall().done[o] ? 1 : 0, cans}[what];
    }

    public int sigher(int i, int what) {
        if (!isSigher(i) || !in(what, 0, 4)) {
            return BAD;
        }
        asked = ofSigher(i, what);
        return 1;
    }

    public int order(int o, int what) {
        if (!isOrder(o) || !in(what, 0, 4)) {
            return BAD;
        }
        asked = ofOrder(o, what);
        return 1;
    }

    public int mark(int i, int kind) {
        if (!isSigher(i) || !in(kind, 1, 5)) {
            return BAD;
        }
        Sigher s = sighers.get(i);
        Class<?>[] classes = {Sigher.class, Deep.class, Apprentice.class, Forger.class, Master.class, Poet.class};
        if (!classes[kind].isInstance(s)) {
            return find(3);
        }
        int sum = 0;
        for (int o = 0; o < orders.size(); o++) {
            int depth = orders.get(o).depth();
            int brings = orders.get(o).gold();
            int[] each = {0, depth - s.takesOf(depth), s.reaches(depth) ? 0 : 1, brings - s.bringsOf(brings),
                hall().done[o] ? 0 : 1, depth > 3 && depth <= 6 ? 1 : 0};
            sum += each[kind];
        }
        return sum;
    }

    public int walk(int i, int place) {
        if (!isSigher(i) || !in(place, 0, 9)) {
            return BAD;
        }
        if (hall().place[i] == place) {
            return STATE;
        }
        if (deeds() == 40) {
            return FULL;
        }
        int steps = Math.abs(hall().place[i] - place);
        halls.add(walked(i, place));
        return steps;
    }

    private Hall walked(int i, int place) {
        Hall next = hall().twin();
        next.place[i] = place;
        return next;
    }

    private Hall rested(int i) {
        Hall next = hall().twin();
        next.breath[i] = Math.min(9, next.breath[i] + 2);
        return next;
    }

    public int sigh(int i, int o) {
        if (!isSigher(i) || !isOrder(o)) {
            return BAD;
        }
        Order order = orders.get(o);
        if (hall().done[o] || hall().place[i] != order.place() || !sighers.get(i).reaches(order.depth())) {
            return STATE;
        }
        if (!can(hall(), i, o)) {
            return SPENT;
        }
        if (deeds() == 40) {
            return FULL;
        }
        halls.add(sighed(hall(), i, o));
        return hall().gold;
    }

    public int rest(int i) {
        if (!isSigher(i)) {
            return BAD;
        }
        if (hall().breath[i] == 9) {
            return STATE;
        }
        if (deeds() == 40) {
            return FULL;
        }
        halls.add(rested(i));
        return hall().breath[i];
    }

    public int undo(int n) {
        if (!in(n, 0, deeds())) {
            return BAD;
        }
        int undone = deeds() - n;
        halls = new ArrayList<>(halls.subList(0, n + 1));
        return undone;
    }

    public int keep(int k) {
        if (!in(k, 0, 2)) {
            return BAD;
        }
        if (sighers.isEmpty()) {
            return STATE;
        }
        kept.set(k, new ArrayList<>(halls));
        return deeds();
    }

    public int on(int k) {
        if (!in(k, 0, 2)) {
            return BAD;
        }
        if (kept.get(k) == null) {
            return find(1);
        }
        halls = new ArrayList<>(kept.get(k));
        return deeds();
    }

    public int takes(int i, int o) {
        if (!isSigher(i) || !isOrder(o)) {
            return BAD;
        }
        int depth = orders.get(o).depth();
        return sighers.get(i).reaches(depth) ? sighers.get(i).takesOf(depth) : NONE;
    }

    public int brings(int i, int o) {
        return isSigher(i) && isOrder(o) ? gold(i, o) : BAD;
    }

    public int give(int r) {
        return giveAll(r, true);
    }

    public int most(int r) {
        return giveAll(r, false);
    }

    /** All rows in their order, as numbers whose figures are the SIGHERS, one up. */
    private int giveAll(int r, boolean forGold) {
        if (!in(r, 0, 5)) {
            return BAD;
        }
        if (sighers.isEmpty()) {
            return STATE;
        }
        int best = -1;
        int[] bestRow = null;
        int base = sighers.size() + 1;
        int many = (int) Math.round(Math.pow(base, orders.size()));
        for (int number = 0; number < many; number++) {
            int[] given = new int[orders.size()];
            int left = number;
            for (int o = orders.size() - 1; o >= 0; o--) {
                given[o] = left % base == 0 ? NONE : left % base - 1;
                left /= base;
            }
            int worth = worthOf(given, forGold);
            if (worth > best) {
                best = worth;
                bestRow = given;
            }
        }
        rows[r] = bestRow;
        return best;
    }

    private int worthOf(int[] given, boolean forGold) {
        Hall h = hall();
        int many = 0;
        for (int o = 0; o < given.length; o++) {
            if (given[o] != NONE) {
                if (!can(h, given[o], o)) {
                    return -1;
                }
                h = sighed(h, given[o], o);
                many++;
            }
        }
        return forGold ? h.gold - hall().gold : many;
    }

    public int plain() {
        if (sighers.isEmpty()) {
            return STATE;
        }
        Hall h = hall();
        int many = 0;
        for (int o = 0; o < orders.size(); o++) {
            Hall next = plainStep(h, o);
            many += next == h ? 0 : 1;
            h = next;
        }
        asked = h.gold - hall().gold;
        return many;
    }

    private Hall plainStep(Hall h, int o) {
        for (int i = 0; i < sighers.size(); i++) {
            if (can(h, i, o)) {
                return sighed(h, i, o);
            }
        }
        return h;
    }

    private boolean isSet(int set) {
        return set >= 0 && set < 1L << orders.size();
    }

    /** The least way by trying every next house. */
    private int leastWay(int from, int set) {
        int least = set == 0 ? 0 : Integer.MAX_VALUE;
        for (int o = 0; o < orders.size(); o++) {
            if ((set & 1 << o) != 0) {
                int place = orders.get(o).place();
                least = Math.min(least, Math.abs(from - place) + leastWay(place, set & ~(1 << o)));
            }
        }
        return least;
    }

    public int way(int i, int set) {
        return isSigher(i) && isSet(set) ? leastWay(hall().place[i], set) : BAD;
    }

    /** Every row of ORDERS without one twice, in no order at all. */
    private void allRows(int[] begun, List<int[]> all) {
        all.add(begun);
        for (int o = orders.size() - 1; o >= 0; o--) {
            int order = o;
            if (Arrays.stream(begun).noneMatch(b -> b == order)) {
                int[] longer = Arrays.copyOf(begun, begun.length + 1);
                longer[begun.length] = o;
                allRows(longer, all);
            }
        }
    }

    public int dusk(int i, int n, int r) {
        if (!isSigher(i) || !in(n, 0, 30) || !in(r, 0, 5)) {
            return BAD;
        }
        List<int[]> all = new ArrayList<>();
        allRows(new int[0], all);
        all.sort(Arrays::compare);
        int best = -1;
        for (int[] row : all) {
            int gold = goldOfRound(i, n, row);
            if (gold > best) {
                best = gold;
                rows[r] = row;
            }
        }
        return best;
    }

    private int goldOfRound(int i, int n, int[] row) {
        Hall h = hall();
        int hours = 0;
        int place = h.place[i];
        for (int o : row) {
            if (!can(h, i, o)) {
                return -1;
            }
            h = sighed(h, i, o);
            hours += Math.abs(place - orders.get(o).place()) + 1;
            place = orders.get(o).place();
        }
        return hours <= n ? h.gold - hall().gold : -1;
    }

    public int hours(int i, int set) {
        if (!isSigher(i) || !isSet(set)) {
            return BAD;
        }
        Hall h = hall();
        int open = 0;
        for (int o = 0; o < orders.size(); o++) {
            if ((set & 1 << o) != 0 && !hall().done[o]) {
                if (!can(h, i, o)) {
                    return NONE;
                }
                h = sighed(h, i, o);
                open |= 1 << o;
            }
        }
        return leastWay(hall().place[i], open) + Integer.bitCount(open);
    }

    private boolean inTune(int i, int j, int t) {
        return Math.abs(sighers.get(i).tune - sighers.get(j).tune) <= t;
    }

    public int pairs(int t) {
        if (!in(t, 0, 9)) {
            return BAD;
        }
        List<Integer> all = new ArrayList<>();
        for (int i = 0; i < sighers.size(); i++) {
            for (int j = i + 1; j < sighers.size(); j++) {
                if (inTune(i, j, t)) {
                    all.add(5 * i + j);
                }
            }
        }
        asked = all.isEmpty() ? NONE : all.get(0);
        return all.size();
    }

    public int choir(int t) {
        if (!in(t, 0, 9)) {
            return BAD;
        }
        if (sighers.isEmpty()) {
            return STATE;
        }
        for (int size = sighers.size(); size >= 1; size--) {
            for (int set = 0; set < 1 << sighers.size(); set++) {
                if (Integer.bitCount(set) == size && spread(set) <= t) {
                    asked = set;
                    return size;
                }
            }
        }
        throw new IllegalStateException("one SIGHER is a choir");
    }

    private int spread(int set) {
        int low = 9;
        int high = 0;
        for (int i = 0; i < sighers.size(); i++) {
            if ((set & 1 << i) != 0) {
                low = Math.min(low, sighers.get(i).tune);
                high = Math.max(high, sighers.get(i).tune);
            }
        }
        return high - low;
    }

    public int loose(int place, int depth, int n) {
        if (!in(place, 0, 9) || !in(depth, 1, 9) || !in(n, 0, 20)) {
            return BAD;
        }
        int touched = 0;
        int where = place;
        int deep = depth;
        for (int hour = 0; hour <= n; hour++) {
            for (int o = 0; o < orders.size(); o++) {
                if (deep >= 1 && orders.get(o).place() == where) {
                    touched |= 1 << o;
                }
            }
            where = where == 9 ? 0 : where + 1;
            deep--;
        }
        return touched;
    }

    private int wrongPairs(int r) {
        if (rows[r] == null) {
            return 1;
        }
        if (rows[r].length % 2 == 1 || rows[r].length / 2 > 6) {
            return 5;
        }
        for (int k = 0; k < rows[r].length; k += 2) {
            if (!isOrder(rows[r][k]) || !in(rows[r][k + 1], 0, 9)) {
                return 3;
            }
        }
        return 0;
    }

    private boolean canHaveDone(Sigher s, int breath, int[] pairs) {
        int left = breath;
        for (int k = 0; k < pairs.length; k += 2) {
            int depth = orders.get(pairs[k]).depth();
            if (!s.reaches(depth) || s.takesOf(depth) != pairs[k + 1] || left < pairs[k + 1]) {
                return false;
            }
            left -= pairs[k + 1];
        }
        return true;
    }

    public int who(int r) {
        if (!in(r, 0, 5)) {
            return BAD;
        }
        if (wrongPairs(r) != 0) {
            return find(wrongPairs(r));
        }
        int set = 0;
        for (int i = 0; i < sighers.size(); i++) {
            set |= canHaveDone(sighers.get(i), hall().breath[i], rows[r]) ? 1 << i : 0;
        }
        return set;
    }

    public int kinds(int i, int r) {
        if (!isSigher(i) || !in(r, 0, 5)) {
            return BAD;
        }
        if (wrongPairs(r) != 0) {
            return find(wrongPairs(r));
        }
        int set = 0;
        for (char letter : "sdafmp".toCharArray()) {
            Sigher s = sworn(letter);
            set |= canHaveDone(s, hall().breath[i], rows[r]) ? 1 << s.kind() : 0;
        }
        return set;
    }

    public int breaths(int i, int r) {
        if (!isSigher(i) || !in(r, 0, 5)) {
            return BAD;
        }
        if (wrongPairs(r) != 0) {
            return find(wrongPairs(r));
        }
        int set = 0;
        for (int breath = 0; breath <= 9; breath++) {
            set |= canHaveDone(sighers.get(i), breath, rows[r]) ? 1 << breath : 0;
        }
        return set;
    }

    public int strike(int n) {
        if (!in(n, 0, 2)) {
            return BAD;
        }
        return sighers.isEmpty() ? STATE : guildWants(hall(), n) - hall().gold;
    }

    private int guildWants(Hall h, int n) {
        if (n == 0) {
            return h.gold;
        }
        int best = strikeWants(h, n);
        for (int i = 0; i < sighers.size(); i++) {
            for (int o = 0; o < orders.size(); o++) {
                if (can(h, i, o)) {
                    best = Math.max(best, strikeWants(sighed(h, i, o), n));
                }
            }
        }
        return best;
    }

    private int strikeWants(Hall h, int n) {
        int least = guildWants(h, n - 1);
        for (int i = 0; i < sighers.size(); i++) {
            Hall struck = h.twin();
            struck.breath[i] = 0;
            least = Math.min(least, guildWants(struck, n - 1));
        }
        return least;
    }

    /** Of 12 to the power of the ORDERS not done: by how many v GOLD or more is had; for v below 0: GOLD itself. */
    private BigInteger parts(Hall h, int o, int p, int v) {
        if (o == orders.size()) {
            int had = h.gold - hall().gold;
            return BigInteger.valueOf(v < 0 ? had : had >= v ? 1 : 0);
        }
        if (hall().done[o]) {
            return parts(h, o + 1, p, v);
        }
        return parts(h, o + 1, p, v).multiply(BigInteger.valueOf(p))
                .add(parts(plainStep(h, o), o + 1, p, v).multiply(BigInteger.valueOf(12 - p)));
    }

    private int tell(int p, int v) {
        BigInteger above = parts(hall(), 0, p, v);
        int open = 0;
        for (boolean done : hall().done) {
            open += done ? 0 : 1;
        }
        BigInteger below = BigInteger.valueOf(12).pow(open);
        BigInteger common = above.gcd(below);
        upper = above.divide(common).longValueExact();
        lower = below.divide(common).longValueExact();
        return 1;
    }

    public int odds(int v, int p) {
        if (!in(v, 0, 66) || !in(p, 0, 12)) {
            return BAD;
        }
        return sighers.isEmpty() ? STATE : tell(p, v);
    }

    public int mid(int p) {
        if (!in(p, 0, 12)) {
            return BAD;
        }
        return sighers.isEmpty() ? STATE : tell(p, -1);
    }

    public int lots(int n, int seed) {
        if (!in(n, 1, 20) || !in(seed, 1, 2147483646)) {
            return BAD;
        }
        if (sighers.isEmpty()) {
            return STATE;
        }
        if (deeds() + n > 40) {
            return FULL;
        }
        BigInteger x = BigInteger.valueOf(seed);
        for (int k = 0; k < n; k++) {
            x = x.multiply(BigInteger.valueOf(48271)).mod(BigInteger.valueOf(2147483647));
            int lot = x.intValueExact();
            int i = lot % sighers.size();
            int o = (lot / 64) % orders.size();
            int place = orders.get(o).place();
            if ((lot / 8) % 4 == 0) {
                halls.add(rested(i));
            } else if (can(hall(), i, o) && hall().place[i] == place) {
                halls.add(sighed(hall(), i, o));
            } else {
                halls.add(walked(i, place));
            }
        }
        return hall().gold;
    }

    public int asked() {
        return asked;
    }

    public long upper() {
        return upper;
    }

    public long lower() {
        return lower;
    }

    public int count(int what) {
        if (!in(what, 0, 10)) {
            return BAD;
        }
        int done = 0;
        for (int o = 0; o < orders.size(); o++) {
            done |= hall().done[o] ? 1 << o : 0;
        }
        return new int[] {
            sighers.size(), orders.size(), deeds(), hall().gold, done, Arrays.stream(hall().breath).sum(),
            (int) sighers.stream().filter(s -> s instanceof Deep).count(),
            (int) sighers.stream().filter(s -> s instanceof Apprentice).count(),
            (int) Arrays.stream(rows).filter(r -> r != null).count(),
            (int) Arrays.stream(texts).filter(t -> t != null).count(),
            (int) kept.stream().filter(k -> k != null).count(),
        }[what];
    }

    public int finding() {
        return finding;
    }

    public int findings(int f) {
        return in(f, 1, 5) ? findings[f] : BAD;
    }

    public long digest() {
        List<Integer> all = new ArrayList<>();
        for (int what = 0; what <= 10; what++) {
            all.add(count(what));
        }
        for (int k = 0; k < 5 * sighers.size(); k++) {
            all.add(ofSigher(k / 5, k % 5));
        }
        for (int k = 0; k < 5 * orders.size(); k++) {
            all.add(ofOrder(k / 5, k % 5));
        }
        for (List<Hall> k : kept) {
            all.add(k == null ? -1 : k.size() - 1);
        }
        for (int[] row : rows) {
            all.add(row == null ? -1 : row.length);
            for (int k = 0; row != null && k < row.length; k++) {
                all.add(row[k]);
            }
        }
        for (byte[] text : texts) {
            all.add(text == null ? -1 : text.length);
            for (int k = 0; text != null && k < text.length; k++) {
                all.add((int) text[k]);
            }
        }
        long h = 17;
        for (int v : all) {
            h = 31 * h + v;
        }
        return h;
    }
}
