import java.util.Arrays;
import java.util.function.Supplier;

/** The boundary cases of promises 32 to 34, and of the pairs that they are by. */
final class WhoEdges {
    private static final int MIN = Integer.MIN_VALUE, MAX = Integer.MAX_VALUE;
    private static final String FIVE = "s90 d90 a90 f90 m90 o010 o020 o030 o040 o060 o090";
    private final Edge e;

    private WhoEdges(Edge e) {
        this.e = e;
    }

    static void all(Edge e) {
        WhoEdges t = new WhoEdges(e);
        e.says(Edge.TERMS, "(a ROW of pairs, 0 to 6: an ORDER, how much BREATH it took 0 .. 9: "
                + "NOTHING; SIZE; UNLIKE; behind BAD)", t::pairs);
        e.says(32, "Which SIGHERS (bits), each by the BREATH that it has now, can have done all these, "
                + "one behind the other (also again).", t::who);
        e.says(32, "BAD; NOTHING; SIZE; UNLIKE.", t::whoRefused);
        e.says(33, "Of which KINDS (bits) a SIGHER can be by these (BREATH as it is).", t::kinds);
        e.says(33, "BAD; NOTHING; SIZE; UNLIKE.", t::kindsRefused);
        e.says(34, "With how much BREATH (bits 0 .. 9) a SIGHER can have begun.", t::breaths);
        e.says(34, "BAD; NOTHING; SIZE; UNLIKE.", t::breathsRefused);
    }

    private static Supplier<SighGuild> laid(String text, int... pairs) {
        return Edge.of(text, g -> Check.lay(g, 5, pairs));
    }

    /** By these pairs all three calls answer a FINDING. */
    private void wrong(String what, int finding, int... pairs) {
        Supplier<SighGuild> state = laid(FIVE, pairs);
        e.refused("who of " + what, state, finding, g -> g.who(5));
        e.refused("kinds of " + what, state, finding, g -> g.kinds(4, 5));
        e.refused("breaths of " + what, state, finding, g -> g.breaths(4, 5));
        e.refused("BAD first: kinds of " + what, state, Check.BAD, g -> g.kinds(5, 5));
        e.refused("BAD first: breaths of " + what, state, Check.BAD, g -> g.breaths(-1, 5));
    }

    private void pairs() {
        for (int size = 0; size <= 40; size++) {
            int[] pairs = new int[size];
            if (size % 2 == 0 && size <= 12) {
                SighGuild g = laid(FIVE, pairs).get();
                e.due("who of " + size / 2 + " pairs", g.who(5), size == 0 ? 31 : 8);
                e.due("kinds of " + size / 2 + " pairs", g.kinds(3, 5), size == 0 ? 63 : 8);
                e.due("breaths of " + size / 2 + " pairs", g.breaths(3, 5), 1023);
            } else {
                wrong(size + " ints", Check.SIZE, pairs);
                Arrays.fill(pairs, -1);
                wrong("SIZE ahead of UNLIKE, " + size + " ints", Check.SIZE, pairs);
            }
        }
        for (int o : new int[] {MIN, -9, -1, 6, 7, 32, MAX}) {
            wrong("ORDER " + o, Check.UNLIKE, o, 0);
            wrong("ORDER " + o + " as the last", Check.UNLIKE, 0, 0, 0, 0, 0, 0, 0, 0, 0, 0, o, 0);
        }
        for (int breath : new int[] {MIN, -9, -1, 10, 11, MAX}) {
            wrong("BREATH " + breath, Check.UNLIKE, 0, breath);
            wrong("BREATH " + breath + " as the last", Check.UNLIKE, 0, 0, 0, 0, 0, 0, 0, 0, 0, 0, 5, breath);
            wrong("BREATH " + breath + " behind what nobody took", Check.UNLIKE, 0, 9, 0, breath);
        }
        for (int o = 0; o < 6; o++) {
            for (int breath = 0; breath <= 9; breath++) {
                SighGuild g = laid(FIVE, o, breath).get();
                e.due("taken: " + o + ", " + breath, Math.min(0, g.who(5)), 0);
            }
        }
        Supplier<SighGuild> one = laid("s90 o010", 1, 1);
        e.refused("an ORDER of another GUILD", one, Check.UNLIKE, g -> g.who(5));
    }

    private void who(String text, int want, int... pairs) {
        e.due("who of " + text + " " + Arrays.toString(pairs), laid(text, pairs).get().who(5), want);
    }

    private void who() {
        who("s50 o020 o030", 1, 0, 2, 1, 3);
        who("s40 o020 o030", 0, 0, 2, 1, 3);
        who("s40 o020 o030", 1, 0, 2, 0, 2);
        who("s30 o020 o030", 0, 0, 2, 0, 2);
        who("s90 o010", 1, 0, 1, 0, 1, 0, 1, 0, 1, 0, 1, 0, 1);
        who("s60 o010", 1, 0, 1, 0, 1, 0, 1, 0, 1, 0, 1, 0, 1);
        who("s50 o010", 0, 0, 1, 0, 1, 0, 1, 0, 1, 0, 1, 0, 1);
        who("s00 f00 o010", 2, 0, 0);
        who("s00 f00 o010", 3);
        who("s90s90s90s90s90 o090", 31, 0, 9);
        who("s90s80d90m90a90 o090", 1, 0, 9);
        who("s90d40d30m40f00 o090", 14 - 4, 0, 4);
        who("p90a90s90 o040", 5, 0, 4);
        who("p90a90s90 o070", 4, 0, 7);
        who("p90a90s90 o030", 7, 0, 3);
        who("d90s90 o010", 3, 0, 1);
        who("s90 o020", 0, 0, 1);
        who("s90 o020", 0, 0, 3);
        SighGuild later = laid("s40 f00 o020 o030", 0, 2, 1, 3).get();
        e.due("not by 4", later.who(5), 0);
        later.rest(0);
        e.due("by 6 then", later.who(5), 1);
        later.sigh(0, 0);
        e.due("not by 4 now", later.who(5), 0);
        later.rest(0);
        e.due("done or not", later.who(5), 1);
        SighGuild none = new SighGuild();
        none.row(0, 0);
        e.due("who(0) without SIGHERS", none.who(0), 0);
    }

    private static Supplier<SighGuild> sixEmpty(String text) {
        return Edge.of(text, g -> {
            for (int r = 0; r < 6; r++) {
                g.row(r, 0);
            }
        });
    }

    private void whoRefused() {
        e.limits("who(r)", sixEmpty(FIVE), SighGuild::who, 0, 5, r -> 31);
        e.limits("BAD ahead of NOTHING: who(r)", Edge.of(FIVE), SighGuild::who, 0, 5, r -> Check.FINDING);
        for (int r = 0; r < 6; r++) {
            int row = r;
            e.refused("who(" + r + ")", Edge.of(FIVE), Check.NOTHING, g -> g.who(row));
        }
        e.refused("SIZE", laid(FIVE, 0), Check.SIZE, g -> g.who(5));
        e.refused("UNLIKE", laid(FIVE, 6, 0), Check.UNLIKE, g -> g.who(5));
        e.refused("UNLIKE without ORDERS", Edge.anew(g -> g.row(0, 2)), Check.UNLIKE, g -> g.who(0));
        e.refused("SIZE without ORDERS", Edge.anew(g -> g.row(0, 3)), Check.SIZE, g -> g.who(0));
        e.refused("NOTHING without ORDERS", SighGuild::new, Check.NOTHING, g -> g.who(0));
    }

    private void kinds(String text, int want, int... pairs) {
        e.due("kinds of " + text + " " + Arrays.toString(pairs), laid(text, pairs).get().kinds(0, 5), want);
    }

    private void kinds() {
        kinds("s00 o090", 63);
        kinds("s00 o090", 8, 0, 0);
        kinds("s90 o090", 1, 0, 9);
        kinds("s80 o090", 0, 0, 9);
        kinds("f90 o090", 1, 0, 9);
        kinds("a40 o090", 18, 0, 4);
        kinds("a30 o090", 0, 0, 4);
        kinds("f10 o010", 1 + 2 + 4 + 16 + 32, 0, 1);
        kinds("f00 o010", 0, 0, 1);
        kinds("m90 o030", 1 + 4 + 32, 0, 3);
        kinds("m90 o040", 1 + 32, 0, 4);
        kinds("m90 o060", 1 + 32, 0, 6);
        kinds("m90 o070", 1, 0, 7);
        kinds("s90 o010 o040", 18, 0, 1, 1, 2);
        kinds("s20 o010 o040", 0, 0, 1, 1, 2);
        kinds("s30 o010 o040", 18, 0, 1, 1, 2);
        kinds("s90 o010 o040", 0, 0, 0, 1, 2);
        SighGuild later = laid("s80 o090", 0, 9).get();
        e.due("not by 8", later.kinds(0, 5), 0);
        later.rest(0);
        e.due("by 9 then", later.kinds(0, 5), 1);
    }

    private void kindsRefused() {
        e.limits("kinds(0, r)", sixEmpty(FIVE), (g, r) -> g.kinds(0, r), 0, 5, r -> 63);
        e.limits("kinds(i, 0) of five", sixEmpty(FIVE), (g, i) -> g.kinds(i, 0), 0, 4, i -> 63);
        e.limits("kinds(i, 0) of one", sixEmpty("s00 o010"), (g, i) -> g.kinds(i, 0), 0, 0, i -> 63);
        e.limits("kinds(i, 0) of none", Edge.anew(g -> g.row(0, 0)), (g, i) -> g.kinds(i, 0), 0, -1, i -> 0);
        for (int r = 0; r < 6; r++) {
            int row = r;
            e.refused("kinds(0, " + r + ")", Edge.of(FIVE), Check.NOTHING, g -> g.kinds(0, row));
            e.refused("BAD ahead of NOTHING: kinds(5, " + r + ")", Edge.of(FIVE), Check.BAD, g -> g.kinds(5, row));
        }
        e.refused("SIZE", laid(FIVE, 0), Check.SIZE, g -> g.kinds(0, 5));
        e.refused("UNLIKE", laid(FIVE, 6, 0), Check.UNLIKE, g -> g.kinds(0, 5));
    }

    private void breaths(String text, int want, int... pairs) {
        e.due("breaths of " + text + " " + Arrays.toString(pairs), laid(text, pairs).get().breaths(0, 5), want);
    }

    private void breaths() {
        for (int depth = 1; depth <= 9; depth++) {
            breaths("s00 o0" + depth + "0", 1024 - (1 << depth), 0, depth);
            breaths("f00 o0" + depth + "0", 1023, 0, 0);
            breaths("f00 o0" + depth + "0", 0, 0, depth);
            breaths("s90 o0" + depth + "0", 0, 0, depth - 1);
        }
        breaths("s00 o010", 1023);
        breaths("d00 o010", 1022, 0, 1);
        breaths("d00 o090", 1024 - 16, 0, 4);
        breaths("a00 o030", 1024 - 8, 0, 3);
        breaths("a90 o040", 0, 0, 4);
        breaths("p00 o060", 1024 - 64, 0, 6);
        breaths("p90 o070", 0, 0, 7);
        breaths("s00 o040 o050", 512, 0, 4, 1, 5);
        breaths("s90 o050", 0, 0, 5, 0, 5);
        breaths("s90 o090", 0, 0, 9, 0, 9, 0, 9, 0, 9, 0, 9, 0, 9);
        breaths("m00 o030", 1024 - 64, 0, 1, 0, 1, 0, 1, 0, 1, 0, 1, 0, 1);
        SighGuild later = laid("s90 o040", 0, 4).get();
        later.sigh(0, 0);
        e.due("whatever it has now", later.breaths(0, 5), 1024 - 16);
    }

    private void breathsRefused() {
        e.limits("breaths(0, r)", sixEmpty(FIVE), (g, r) -> g.breaths(0, r), 0, 5, r -> 1023);
        e.limits("breaths(i, 0) of five", sixEmpty(FIVE), (g, i) -> g.breaths(i, 0), 0, 4, i -> 1023);
        e.limits("breaths(i, 0) of one", sixEmpty("s00 o010"), (g, i) -> g.breaths(i, 0), 0, 0, i -> 1023);
        e.limits("breaths(i, 0) of none", Edge.anew(g -> g.row(0, 0)), (g, i) -> g.breaths(i, 0), 0, -1, i -> 0);
        for (int r = 0; r < 6; r++) {
            int row = r;
            e.refused("breaths(0, " + r + ")", Edge.of(FIVE), Check.NOTHING, g -> g.breaths(0, row));
            e.refused("BAD ahead of NOTHING: breaths(5, " + r + ")", Edge.of(FIVE), Check.BAD,
                    g -> g.breaths(5, row));
        }
        e.refused("SIZE", laid(FIVE, 0), Check.SIZE, g -> g.breaths(0, 5));
        e.refused("UNLIKE", laid(FIVE, 6, 0), Check.UNLIKE, g -> g.breaths(0, 5));
    }
}
