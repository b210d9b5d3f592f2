import java.util.function.Supplier;

/** The boundary cases of promises 35 to 38, and of what the Terms say of chances and LOTS. */
final class ChanceEdges {
    private static final int MAX = Integer.MAX_VALUE;
    private static final String SIX = "m90 o019o019o019o019o019o019";
    private static final String HANGING = "s10 o011 o019";
    private static final int[][] TWELFTHS = {{1, 1}, {11, 12}, {5, 6}, {3, 4}, {2, 3}, {7, 12}, {1, 2}, {5, 12},
        {1, 3}, {1, 4}, {1, 6}, {1, 12}, {0, 1}};
    private final Edge e;

    private ChanceEdges(Edge e) {
        this.e = e;
    }

    static void all(Edge e) {
        ChanceEdges t = new ChanceEdges(e);
        e.says(35, "By turns the guild lets a SIGHER do an ORDER that it CAN do, or none", t::guildTurn);
        e.says(35, "then a strike takes all BREATH of a SIGHER, or of none, n (0 .. 2) times each", t::strikeTurn);
        e.says(35, "GOLD more than now, the guild wanting much, the strike little.", t::moreThanNow);
        e.says(35, "BAD; STATE: no SIGHERS.", t::strikeRefused);
        e.says(36, "Chances that plain() would have v (0 .. 66) GOLD or more", t::orMore);
        e.says(36, "if each ORDER that is not done is taken back by p (0 .. 12) of 12, each by itself: 1.", t::takenBack);
        e.says(36, "BAD; STATE: no SIGHERS.", t::oddsRefused);
        e.says(37, "The mean of that GOLD: 1.", t::mid);
        e.says(37, "BAD; STATE: no SIGHERS.", t::midRefused);
        e.says(Edge.TERMS, "Chances, means are told by upper(), lower(), in lowest terms, the lower number above 0 (0 by 1).",
                t::lowestTerms);
        e.says(Edge.TERMS, "======== 3 LOTS: a number comes from the one ahead by 48271 times it modulo 2147483647, "
                + "the first from a seed (1 .. 2147483646).", t::numbers);
        e.says(38, "n (1 .. 20) DEEDS truly by LOTS of a seed: for each a number", t::lotsAreDeeds);
        e.says(38, "SIGHER it modulo how many there are, ORDER it by 64, cut, modulo how many there are", t::whichOfThem);
        e.says(38, "if it by 8, cut, modulo 4 is 0, it RESTS (BREATH 9 at most)", t::lotRests);
        e.says(38, "else it SIGHS that, if it CAN and is there; else it WALKS to its PLACE (also if it is there): "
                + "GOLD then.", t::lotSighsOrWalks);
        e.says(38, "BAD; STATE: no SIGHERS", t::lotsBadThenState);
        e.says(38, "FULL: with n more there would be more than 40 DEEDS. (FULL last.)", t::lotsFull);
    }

    private void strike(String text, int... want) {
        for (int n = 0; n <= 2; n++) {
            e.due("strike(" + n + ") of " + text, Check.guildOf(text).strike(n), want[n]);
        }
    }

    private void guildTurn() {
        strike("s10 o019", 0, 9, 9);
        strike("s00 o019", 0, 0, 0);
        strike("s10 o010", 0, 0, 0);
        strike("a90 o039", 0, 9, 9);
        strike("a90 o049", 0, 0, 0);
        strike("p90 o069", 0, 8, 8);
        strike("p90 o079", 0, 0, 0);
        strike("m90 o999", 0, 11, 11);
        strike("f00 o099o099o099o099o099o099", 0, 4, 8);
        strike("m90m90m90m90m90o019o019o019o019o019o019", 0, 11, 22);
    }

    private void strikeTurn() {
        e.limits("strike(n)", Edge.of("s90 s90 o019 o018"), SighGuild::strike, 0, 2, n -> new int[] {0, 9, 17}[n]);
        strike("s90 o019 o018", 0, 9, 9);
        strike("s30 o031 o039", 0, 9, 9);
        strike("s30 s30 o031 o039 o038", 0, 9, 9);
        strike("s90 s20 o019 o028", 0, 9, 17);
        strike("s90 s10 o019 o028", 0, 9, 17);
        strike("s90 f00 o019 o018", 0, 9, 13);
        strike("f00 f00 o019 o018", 0, 4, 8);
        strike("s40 s30 o039 o048", 0, 9, 9);
        strike("s10 s10 s10 o019 o018 o017", 0, 9, 17);
    }

    private void moreThanNow() {
        SighGuild g = Edge.of("s90 o019 o018", x -> x.sigh(0, 0)).get();
        e.due("GOLD now", g.count(3), 9);
        e.due("strike(0)", g.strike(0), 0);
        e.due("strike(1)", g.strike(1), 8);
        e.due("strike(2)", g.strike(2), 8);
        g.sigh(0, 1);
        for (int n = 0; n <= 2; n++) {
            e.due("strike(" + n + "), all done", g.strike(n), 0);
        }
        e.due("GOLD", g.count(3), 17);
        e.due("BREATH", g.count(5), 7);
        e.due("DEEDS", g.count(2), 2);
        SighGuild rested = Edge.of("s00 o029", x -> x.rest(0)).get();
        e.due("by BREATH now", rested.strike(1), 9);
    }

    private void strikeRefused() {
        e.limits("strike(n) of " + SIX, Edge.of(SIX), SighGuild::strike, 0, 2, n -> n == 0 ? 0 : 11);
        e.limits("BAD ahead of STATE: strike(n)", SighGuild::new, SighGuild::strike, 0, 2, n -> Check.STATE);
        for (int n = 0; n <= 2; n++) {
            int times = n;
            e.refused("strike(" + n + ")", SighGuild::new, Check.STATE, g -> g.strike(times));
        }
    }

    private void odds(String text, int v, int p, long upper, long lower) {
        SighGuild g = Check.guildOf(text);
        e.chance("odds(" + v + ", " + p + ") of " + text, g, g.odds(v, p), upper, lower);
    }

    private void orMore() {
        for (int v = 0; v <= 66; v++) {
            odds(SIX, v, 0, 1, 1);
            odds("s90 o019", v, 0, v <= 9 ? 1 : 0, 1);
            odds("s90 o019", v, 3, v == 0 ? 1 : v <= 9 ? 3 : 0, v == 0 || v > 9 ? 1 : 4);
            odds("s00 o019", v, 3, v == 0 ? 1 : 0, 1);
        }
        odds(SIX, 66, 1, 1771561, 2985984);
        odds(SIX, 55, 1, 1771561 + 6 * 161051, 2985984);
        odds(SIX, 56, 1, 1771561, 2985984);
        odds(SIX, 66, 11, 1, 2985984);
        odds(SIX, 1, 11, 1214423, 2985984);
        odds(HANGING, 1, 6, 3, 4);
        odds(HANGING, 2, 6, 1, 4);
        odds(HANGING, 9, 6, 1, 4);
        odds(HANGING, 10, 6, 0, 1);
        SighGuild done = Edge.of("f00 o014 o018", g -> g.sigh(0, 1)).get();
        e.chance("GOLD so had: odds(2, 0)", done, done.odds(2, 0), 1, 1);
        e.chance("GOLD so had: odds(3, 0)", done, done.odds(3, 0), 0, 1);
    }

    private void takenBack() {
        for (int p = 0; p <= 12; p++) {
            odds("s90 o019", 9, p, TWELFTHS[p][0], TWELFTHS[p][1]);
            odds("s90 o019", 0, p, 1, 1);
            odds("s90 o019 o018", 17, p, TWELFTHS[p][0] * TWELFTHS[p][0], TWELFTHS[p][1] * TWELFTHS[p][1]);
            SighGuild one = Edge.of("f00 o014 o018", g -> g.sigh(0, 0)).get();
            e.chance("one done, by " + p, one, one.odds(4, p), TWELFTHS[p][0], TWELFTHS[p][1]);
            SighGuild all = Edge.of("f00 o014 o018", g -> g.sigh(0, 0), g -> g.sigh(0, 1)).get();
            e.chance("all done, by " + p, all, all.odds(0, p), 1, 1);
            e.chance("all done, by " + p, all, all.odds(1, p), 0, 1);
        }
        odds(SIX, 0, 12, 1, 1);
        odds(SIX, 1, 12, 0, 1);
        odds(HANGING, 9, 0, 0, 1);
        odds(HANGING, 9, 12, 0, 1);
    }

    private void oddsRefused() {
        Supplier<SighGuild> told = Edge.of(SIX, g -> g.odds(56, 1));
        e.limits("odds(v, 0)", told, (g, v) -> g.odds(v, 0), 0, 66, v -> 1);
        e.limits("odds(0, p)", told, (g, p) -> g.odds(0, p), 0, 12, p -> 1);
        e.limits("BAD ahead of STATE: odds(v, 0)", SighGuild::new, (g, v) -> g.odds(v, 0), 0, 66, v -> Check.STATE);
        e.limits("BAD ahead of STATE: odds(0, p)", SighGuild::new, (g, p) -> g.odds(0, p), 0, 12, p -> Check.STATE);
        e.refused("odds(0, 0)", SighGuild::new, Check.STATE, g -> g.odds(0, 0));
        e.refused("odds(66, 12)", SighGuild::new, Check.STATE, g -> g.odds(66, 12));
    }

    private void mid() {
        int[][] due = {{9, 1}, {33, 4}, {15, 2}, {27, 4}, {6, 1}, {21, 4}, {9, 2}, {15, 4}, {3, 1}, {9, 4}, {3, 2},
            {3, 4}, {0, 1}};
        for (int p = 0; p <= 12; p++) {
            SighGuild g = Check.guildOf("s90 o019");
            e.chance("mid(" + p + ")", g, g.mid(p), due[p][0], due[p][1]);
            SighGuild six = Check.guildOf(SIX);
            boolean even = p % 2 == 0;
            e.chance("mid(" + p + ") of six", six, six.mid(p), even ? 66 - 11 * p / 2 : 11 * (12 - p), even ? 1 : 2);
            SighGuild all = Edge.of("f00 o014 o018", x -> x.sigh(0, 0), x -> x.sigh(0, 1)).get();
            e.chance("mid(" + p + "), all done", all, all.mid(p), 0, 1);
            SighGuild weak = Check.guildOf("s00 o019");
            e.chance("mid(" + p + "), nobody CAN", weak, weak.mid(p), 0, 1);
        }
        SighGuild hanging = Check.guildOf(HANGING);
        e.chance("mid(6)", hanging, hanging.mid(6), 11, 4);
        SighGuild one = Edge.of("f00 o014 o018", g -> g.sigh(0, 1)).get();
        e.chance("mid(0) of GOLD so had", one, one.mid(0), 2, 1);
    }

    private void midRefused() {
        e.limits("mid(p)", Edge.of(SIX, g -> g.odds(56, 1)), SighGuild::mid, 0, 12, p -> 1);
        e.limits("BAD ahead of STATE: mid(p)", SighGuild::new, SighGuild::mid, 0, 12, p -> Check.STATE);
        e.refused("mid(0)", SighGuild::new, Check.STATE, g -> g.mid(0));
        e.refused("mid(12)", SighGuild::new, Check.STATE, g -> g.mid(12));
    }

    private void lowestTerms() {
        odds("s90 o019", 10, 5, 0, 1);
        odds("s90 o019", 1, 12, 0, 1);
        odds("s90 o019 o019", 1, 6, 3, 4);
        odds("s90 o019 o019", 1, 4, 8, 9);
        odds(SIX, 0, 7, 1, 1);
        odds(SIX, 66, 6, 1, 64);
        odds(SIX, 66, 4, 64, 729);
        odds(SIX, 66, 5, 117649, 2985984);
        SighGuild g = Check.guildOf(SIX);
        e.chance("mid(12)", g, g.mid(12), 0, 1);
        e.chance("mid(6)", g, g.mid(6), 33, 1);
    }

    private void first(int seed, int sigher, int place) {
        SighGuild g = Check.guildOf("s90s90s90s90s90 o110o210o310o410o510o610");
        e.due("lots(1, " + seed + ")", g.lots(1, seed), 0);
        for (int i = 0; i < 5; i++) {
            e.told("the PLACE of " + i, g, g.sigher(i, 3), i == sigher ? place : 0);
        }
    }

    /** From seed 1 come 48271, 182605794, 1291394886, 1914720637, 2078669041; from the greatest what is left of those. */
    private void numbers() {
        first(1, 1, 5);
        first(2147483646, 1, 4);
        SighGuild g = Check.guildOf(SighersTest.FIVE);
        int[][] due = {{2, 16, 15}, {2, 16, 17}, {2, 16, 19}, {2, 16, 19}, {3, 24, 19}};
        for (int n = 1; n <= 5; n++) {
            SighGuild one = Check.guildOf(SighersTest.FIVE);
            e.due("lots(" + n + ", 1)", one.lots(n, 1), due[n - 1][0]);
            e.due("DEEDS", one.count(2), n);
            e.due("done", one.count(4), due[n - 1][1]);
            e.due("BREATH", one.count(5), due[n - 1][2]);
        }
        e.due("lots(2, 2147483646)", g.lots(2, 2147483646), 1);
        e.due("done", g.count(4), 8);
        e.told("the PLACE", g, g.sigher(3, 3), 9);
        int[] seeds = {48271, 182605794, 1291394886, 1914720637};
        for (int k = 0; k < seeds.length; k++) {
            SighGuild whole = Check.guildOf(SighersTest.FIVE);
            SighGuild parted = Check.guildOf(SighersTest.FIVE);
            whole.lots(20, 1);
            parted.lots(k + 1, 1);
            parted.lots(19 - k, seeds[k]);
            e.due("gone on from the number ahead", parted.digest(), whole.digest());
        }
    }

    private void lotsAreDeeds() {
        e.limits("lots(n, 1)", Edge.of("s90 o019"), (g, n) -> g.lots(n, 1) < 0 ? Check.BAD : g.count(2), 1, 20, n -> n);
        SighGuild g = Check.guildOf(SighersTest.FIVE);
        g.lots(20, 77);
        long[] behind = new long[21];
        for (int n = 0; n <= 20; n++) {
            SighGuild some = Check.guildOf(SighersTest.FIVE);
            if (n > 0) {
                some.lots(n, 77);
            }
            behind[n] = some.digest();
        }
        for (int n = 20; n >= 0; n--) {
            e.due("undo(" + n + ")", g.undo(n), n == 20 ? 0 : 1);
            e.due("as behind " + n, g.digest(), behind[n]);
        }
    }

    private void whichOfThem() {
        int[] seeds = {1, 2147483646, 2, 3, 1000000007};
        for (int seed : seeds) {
            long number = seed * 48271L % 2147483647L;
            for (int sighers = 1; sighers <= 5; sighers++) {
                for (int orders = 1; orders <= 6; orders++) {
                    StringBuilder text = new StringBuilder("s00".repeat(sighers));
                    for (int o = 0; o < orders; o++) {
                        text.append('o').append(o + 1).append("10");
                    }
                    SighGuild g = Check.guildOf(text.toString());
                    g.lots(1, seed);
                    boolean rests = number / 8 % 4 == 0;
                    int who = (int) (number % sighers);
                    for (int i = 0; i < sighers; i++) {
                        int place = i == who && !rests ? (int) (number / 64 % orders) + 1 : 0;
                        e.told("seed " + seed + ", the PLACE of " + i, g, g.sigher(i, 3), place);
                        e.told("seed " + seed + ", BREATH of " + i, g, g.sigher(i, 1), i == who && rests ? 2 : 0);
                    }
                }
            }
        }
    }

    /** A seed whose number by 8, cut, modulo 4 is so. */
    private static int seedOf(int modulo) {
        int seed = 1;
        while (seed * 48271L % 2147483647L / 8 % 4 != modulo) {
            seed++;
        }
        return seed;
    }

    private void lotRests() {
        int[] due = {2, 3, 4, 5, 6, 7, 8, 9, 9, 9};
        for (int breath = 0; breath <= 9; breath++) {
            for (int modulo = 0; modulo < 4; modulo++) {
                SighGuild g = Check.guildOf("s" + breath + "0 o999");
                g.lots(1, seedOf(modulo));
                e.told("BREATH by " + modulo, g, g.sigher(0, 1), modulo == 0 ? due[breath] : breath);
                e.told("the PLACE by " + modulo, g, g.sigher(0, 3), modulo == 0 ? 0 : 9);
                e.due("DEEDS", g.count(2), 1);
                e.due("undo(0)", g.undo(0), 1);
                e.told("BREATH again", g, g.sigher(0, 1), breath);
            }
        }
    }

    private void lot(String text, int gold, int breath, int place) {
        SighGuild g = Check.guildOf(text);
        e.due("lots(1, ..) of " + text, g.lots(1, seedOf(1)), gold);
        e.told("BREATH of " + text, g, g.sigher(0, 1), breath);
        e.told("the PLACE of " + text, g, g.sigher(0, 3), place);
        e.due("DEEDS of " + text, g.count(2), 1);
        e.due("done of " + text, g.count(4), place == 0 && gold > 0 ? 1 : 0);
    }

    private void lotSighsOrWalks() {
        lot("s50 o059", 9, 0, 0);
        lot("s40 o059", 0, 4, 0);
        lot("s90 o159", 0, 9, 1);
        lot("a30 o039", 9, 0, 0);
        lot("a90 o049", 0, 9, 0);
        lot("p60 o069", 8, 0, 0);
        lot("p90 o079", 0, 9, 0);
        lot("m40 o099", 11, 0, 0);
        lot("d30 o099", 0, 3, 0);
        lot("f00 o099", 4, 0, 0);
        lot("s40 o959", 0, 4, 9);
        SighGuild g = Check.guildOf("s90 o057");
        e.due("sighs", g.lots(1, seedOf(2)), 7);
        e.due("walks where it is, as it is done", g.lots(1, seedOf(3)), 7);
        e.due("DEEDS", g.count(2), 2);
        e.told("the PLACE", g, g.sigher(0, 3), 0);
        g.walk(0, 4);
        e.due("walks to the house", g.lots(1, seedOf(1)), 7);
        e.told("the PLACE", g, g.sigher(0, 3), 0);
        e.due("undo(3)", g.undo(3), 1);
        e.told("the PLACE", g, g.sigher(0, 3), 4);
    }

    private void lotsBadThenState() {
        e.limits("lots(n, 1)", Edge.of("s00 o910"), (g, n) -> g.lots(n, 1), 1, 20, n -> 0);
        e.limits("lots(1, seed)", Edge.of("s00 o910"), (g, seed) -> g.lots(1, seed), 1, MAX - 1, seed -> 0);
        e.limits("BAD ahead of STATE: lots(n, 1)", SighGuild::new, (g, n) -> g.lots(n, 1), 1, 20, n -> Check.STATE);
        e.limits("BAD ahead of STATE: lots(1, seed)", SighGuild::new, (g, seed) -> g.lots(1, seed), 1, MAX - 1,
                seed -> Check.STATE);
        e.refused("lots(1, 1)", SighGuild::new, Check.STATE, g -> g.lots(1, 1));
        e.refused("lots(20, 1)", SighGuild::new, Check.STATE, g -> g.lots(20, 1));
    }

    private void lotsFull() {
        for (int deeds = 20; deeds <= 40; deeds++) {
            Supplier<SighGuild> state = DeedEdges.walked("s30 o031", deeds);
            for (int n = 1; n <= 20; n++) {
                int more = n;
                if (deeds + n <= 40) {
                    SighGuild g = state.get();
                    e.due(n + " behind " + deeds, Math.min(0, g.lots(n, 5)), 0);
                    e.due("DEEDS", g.count(2), deeds + n);
                } else if (deeds + n == 41 || n == 20) {
                    e.refused(n + " behind " + deeds, state, Check.FULL, g -> g.lots(more, 5));
                }
            }
        }
        Supplier<SighGuild> full = DeedEdges.walked("s30 o031", 40);
        e.refused("BAD ahead of FULL: lots(0, 1)", full, Check.BAD, g -> g.lots(0, 1));
        e.refused("BAD ahead of FULL: lots(21, 1)", full, Check.BAD, g -> g.lots(21, 1));
        e.refused("BAD ahead of FULL: lots(1, 0)", full, Check.BAD, g -> g.lots(1, 0));
        e.refused("BAD ahead of FULL: lots(1, 2147483647)", full, Check.BAD, g -> g.lots(1, MAX));
    }
}
