import java.util.Arrays;
import java.util.function.Supplier;

/** The boundary cases of promises 26 to 28. */
final class RoundEdges {
    private static final int NONE = Check.NONE;
    private static final Supplier<SighGuild> ONE = Edge.of("s90 o915");
    private static final Supplier<SighGuild> MOST = Edge.of("s90s90s90s90s90 o011 o111 o311 o511 o811 o911");
    private final Edge e;

    private RoundEdges(Edge e) {
        this.e = e;
    }

    static void all(Edge e) {
        RoundEdges t = new RoundEdges(e);
        e.says(26, "The fewest steps by which a SIGHER comes from where it is to all houses of a set of ORDERS "
                + "(done or not), in any order.", t::waySteps);
        e.says(26, "BAD.", t::wayBad);
        e.says(27, "The most GOLD by a SIGHER alone in n (0 .. 30) HOURS", t::duskHours);
        e.says(27, "each step and each SIGH taking one", t::duskEachOne);
        e.says(27, "the first such row of ORDERS (by their numbers, the first ones first; "
                + "shorter ones ahead of longer ones that begin so)", t::duskFirstRow);
        e.says(27, "comes to a ROW (anew)", t::duskRowAnew);
        e.says(27, "BAD.", t::duskBad);
        e.says(28, "The fewest HOURS by which a SIGHER alone does all ORDERS of a set that are not done.", t::hoursFewest);
        e.says(28, "NONE: not by its BREATH, or too deep.", t::hoursNone);
        e.says(28, "BAD.", t::hoursBad);
    }

    private static int setOf(int... orders) {
        int set = 0;
        for (int o : orders) {
            set |= 1 << o;
        }
        return set;
    }

    private void way(int from, int set, int want) {
        SighGuild g = MOST.get();
        if (from > 0) {
            g.walk(2, from);
        }
        e.due("way(2, " + Integer.toBinaryString(set) + ") from " + from, g.way(2, set), want);
    }

    private void waySteps() {
        for (int from = 0; from <= 9; from++) {
            int[] houses = {0, 1, 3, 5, 8, 9};
            way(from, 0, 0);
            for (int o = 0; o < 6; o++) {
                way(from, setOf(o), Math.abs(from - houses[o]));
            }
            way(from, 63, 9 + Math.min(from, 9 - from));
            way(from, setOf(0, 5), 9 + Math.min(from, 9 - from));
            int in = from <= 3 ? 3 - from + 2 : from >= 5 ? from - 5 + 2 : 3;
            way(from, setOf(2, 3), in);
        }
        SighGuild done = Edge.of("s90 f00 o213 o913", g -> g.walk(1, 9), g -> g.sigh(1, 1)).get();
        e.due("a house whose ORDER is done", done.way(0, 2), 9);
        e.due("both", done.way(0, 3), 9);
        SighGuild weak = Check.guildOf("a00 o999");
        e.due("too deep, no BREATH", weak.way(0, 1), 9);
    }

    private void wayBad() {
        e.limits("way(0, set) of one", ONE, (g, set) -> g.way(0, set), 0, 1, set -> 9 * set);
        e.limits("way(0, set) of six", MOST, (g, set) -> Math.min(0, g.way(0, set)), 0, 63, set -> 0);
        e.limits("way(i, 1) of one", ONE, (g, i) -> g.way(i, 1), 0, 0, i -> 9);
        e.limits("way(i, 63) of five", MOST, (g, i) -> g.way(i, 63), 0, 4, i -> 9);
        e.limits("way(i, 0) of none", SighGuild::new, (g, i) -> g.way(i, 0), 0, -1, i -> 0);
        for (int set : new int[] {64, 128, 1 << 30, 65, 64 + 32, -64}) {
            e.refused("way(0, " + set + ")", MOST, Check.BAD, g -> g.way(0, set));
        }
        e.refused("way(0, 2): an ORDER that there is not", ONE, Check.BAD, g -> g.way(0, 2));
        e.refused("way(0, 3): one that there is not", ONE, Check.BAD, g -> g.way(0, 3));
    }

    private void dusk(SighGuild g, int i, int n, int want, int... row) {
        e.due("dusk(" + i + ", " + n + ", 5)", g.dusk(i, n, 5), want);
        e.ints(g, 5, row);
    }

    private void dusk(String text, int n, int want, int... row) {
        dusk(Check.guildOf(text), 0, n, want, row);
    }

    private void duskHours() {
        String ends = "s90 o913 o013 o913";
        dusk(ends, 30, 9, 0, 1, 2);
        dusk(ends, 29, 9, 0, 2, 1);
        dusk(ends, 21, 9, 0, 2, 1);
        dusk(ends, 20, 9, 1, 0, 2);
        dusk(ends, 12, 9, 1, 0, 2);
        dusk(ends, 11, 6, 0, 2);
        dusk(ends, 10, 3, 0);
        dusk(ends, 9, 3, 1);
        dusk(ends, 1, 3, 1);
        dusk(ends, 0, 0);
        e.limits("dusk(0, n, 0) of one", ONE, (g, n) -> g.dusk(0, n, 0), 0, 30, n -> n < 10 ? 0 : 5);
        dusk("m90 o019 o019 o019 o019 o019 o019", 30, 66, 0, 1, 2, 3, 4, 5);
        dusk("m90 o019 o019 o019 o019 o019 o019", 5, 55, 0, 1, 2, 3, 4);
        dusk("s00 o019", 30, 0);
        dusk("a90 o049 o039", 30, 9, 1);
        dusk("p90 o079 o069", 30, 8, 1);
        dusk("f00 o099", 30, 4, 0);
        SighGuild kinds = Check.guildOf("s90 f01 p62 a33 m44 o099 o069 o049 o039");
        dusk(kinds, 0, 30, 18, 1, 3);
        dusk(kinds, 1, 30, 16, 0, 1, 2, 3);
        dusk(kinds, 2, 30, 8, 1);
        dusk(kinds, 3, 30, 9, 3);
        dusk(kinds, 4, 30, 22, 1, 3);
        dusk("s50 o023 o034", 30, 7, 0, 1);
        dusk("s40 o023 o034", 30, 4, 1);
    }

    private void duskEachOne() {
        for (int place = 0; place <= 9; place++) {
            SighGuild g = Check.guildOf("s90 o" + place + "17");
            dusk(g, 0, place, 0);
            dusk(g, 0, place + 1, 7, 0);
            SighGuild back = Edge.of("s90 o" + place + "17", x -> x.walk(0, 9)).get();
            dusk(back, 0, 9 - place, 0);
            dusk(back, 0, 10 - place, 7, 0);
        }
        dusk("s90 o213 o414", 5, 4, 1);
        dusk("s90 o213 o414", 6, 7, 0, 1);
    }

    private void duskFirstRow() {
        dusk("s90 o010 o013", 30, 3, 0, 1);
        dusk("s90 o010 o013", 1, 3, 1);
        dusk("s90 o013 o010", 30, 3, 0);
        dusk("s90 o010", 30, 0);
        dusk("s90 o013 o013", 1, 3, 0);
        dusk("s90 o013 o013", 2, 6, 0, 1);
        dusk("s90 o513 o013", 30, 6, 0, 1);
        dusk("s90 o513 o013", 11, 6, 1, 0);
        dusk("s90 o513 o013", 12, 6, 0, 1);
        dusk("s10 o013 o013", 30, 3, 0);
        dusk("s90 o010o010o010o010o010o011", 30, 1, 0, 1, 2, 3, 4, 5);
        dusk("s90 o010o010o010o010o010o011", 5, 1, 0, 1, 2, 3, 5);
        dusk("s40 o010o010o010o010o010o011", 30, 1, 0, 1, 2, 5);
        SighGuild done = Edge.of("s90 o013 o014 o015", g -> g.sigh(0, 1)).get();
        dusk(done, 0, 30, 8, 0, 2);
        SighGuild all = Edge.of("s90 f00 o013 o014", g -> g.sigh(1, 0), g -> g.sigh(1, 1)).get();
        dusk(all, 0, 30, 0);
    }

    private void duskRowAnew() {
        for (int orders = 1; orders <= 6; orders++) {
            int[] row = new int[orders];
            for (int o = 0; o < orders; o++) {
                row[o] = o;
            }
            for (int size : new int[] {0, 1, 6, 40}) {
                int[] sevens = new int[size];
                Arrays.fill(sevens, 7);
                SighGuild g = Check.guildOf("s90" + "o011".repeat(orders));
                Check.lay(g, 5, sevens);
                dusk(g, 0, 30, orders, row);
                dusk(g, 0, 0, 0);
            }
            SighGuild g = Check.guildOf("s90" + "o011".repeat(orders));
            dusk(g, 0, 0, 0);
            e.due("count(8) of a ROW that was missing", g.count(8), 1);
        }
    }

    private void duskBad() {
        e.limits("dusk(i, 10, 0) of one", ONE, (g, i) -> g.dusk(i, 10, 0), 0, 0, i -> 5);
        e.limits("dusk(i, 30, 0) of five", MOST, (g, i) -> g.dusk(i, 30, 0), 0, 4, i -> 6);
        e.limits("dusk(0, n, 0) of six", MOST, (g, n) -> Math.min(0, g.dusk(0, n, 0)), 0, 30, n -> 0);
        e.limits("dusk(0, 10, r)", ONE, (g, r) -> g.dusk(0, 10, r), 0, 5, r -> 5);
        e.limits("dusk(i, 0, 0) of none", SighGuild::new, (g, i) -> g.dusk(i, 0, 0), 0, -1, i -> 0);
    }

    private void hours(SighGuild g, int set, int want) {
        e.due("hours(0, " + Integer.toBinaryString(set) + ")", g.hours(0, set), want);
    }

    private void hoursFewest() {
        hours(MOST.get(), 0, 0);
        hours(MOST.get(), 1, 1);
        hours(MOST.get(), setOf(5), 10);
        hours(MOST.get(), 63, 15);
        SighGuild mid = MOST.get();
        mid.walk(0, 4);
        hours(mid, 63, 13 + 6);
        hours(mid, setOf(0, 5), 13 + 2);
        hours(mid, setOf(2, 3), 3 + 2);
        SighGuild done = Edge.of("s90 f00 o013 o913 o513", g -> g.walk(1, 9), g -> g.sigh(1, 1)).get();
        hours(done, setOf(1), 0);
        hours(done, setOf(0, 1), 1);
        hours(done, setOf(0, 1, 2), 7);
        SighGuild all = Edge.of("s00 f00 o013 o093", g -> g.sigh(1, 0), g -> g.sigh(1, 1)).get();
        hours(all, 3, 0);
    }

    private void hoursNone() {
        hours(Check.guildOf("s50 o023 o034"), 3, 2);
        hours(Check.guildOf("s40 o023 o034"), 3, NONE);
        hours(Check.guildOf("s40 o023 o034"), 2, 1);
        hours(Check.guildOf("s20 o023 o034"), 2, NONE);
        hours(Check.guildOf("s20 o023 o034"), 0, 0);
        hours(Check.guildOf("f00 o099o099o099o099o099o099"), 63, 6);
        hours(Check.guildOf("d40 o099"), 1, 1);
        hours(Check.guildOf("d30 o099"), 1, NONE);
        hours(Check.guildOf("a90 o039 o049"), 1, 1);
        hours(Check.guildOf("a90 o039 o049"), 2, NONE);
        hours(Check.guildOf("a90 o039 o049"), 3, NONE);
        hours(Check.guildOf("p90 o069 o079"), 1, 1);
        hours(Check.guildOf("p90 o069 o079"), 2, NONE);
        hours(Edge.of("a90 f00 o039 o049", g -> g.sigh(1, 1)).get(), 3, 1);
        hours(Edge.of("s40 f00 o023 o034", g -> g.sigh(1, 0)).get(), 3, 1);
        hours(Edge.of("s40 o023 o034", g -> g.sigh(0, 0)).get(), 3, NONE);
        hours(Edge.of("s40 o023 o034", g -> g.rest(0)).get(), 3, 2);
    }

    private void hoursBad() {
        e.limits("hours(0, set) of one", ONE, (g, set) -> g.hours(0, set), 0, 1, set -> 10 * set);
        e.limits("hours(0, set) of six", MOST, (g, set) -> Math.min(0, g.hours(0, set)), 0, 63, set -> 0);
        e.limits("hours(i, 1) of one", ONE, (g, i) -> g.hours(i, 1), 0, 0, i -> 10);
        e.limits("hours(i, 63) of five", MOST, (g, i) -> g.hours(i, 63), 0, 4, i -> 15);
        e.limits("hours(i, 0) of none", SighGuild::new, (g, i) -> g.hours(i, 0), 0, -1, i -> 0);
        Supplier<SighGuild> weak = Edge.of("a00 o049");
        e.refused("BAD ahead of NONE: hours(0, 3)", weak, Check.BAD, g -> g.hours(0, 3));
        e.refused("BAD ahead of NONE: hours(1, 1)", weak, Check.BAD, g -> g.hours(1, 1));
    }
}
