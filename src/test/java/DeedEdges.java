import java.util.function.Supplier;

/** The boundary cases of promises 15 to 20, and of what the Terms say of DEEDS. */
final class DeedEdges {
    private static final int MIN = Integer.MIN_VALUE, MAX = Integer.MAX_VALUE;
    private static final String TWO = "s30 s90 a90 o031 o041";
    private static final Supplier<SighGuild> ONE = Edge.of("s50 o555");
    private static final Supplier<SighGuild> MOST = Edge.of("s10 d21 a32 f43 m54 o011 o011 o011 o011 o011 o011");
    private final Edge e;

    private DeedEdges(Edge e) {
        this.e = e;
    }

    /** A GUILD with so many DEEDS: SIGHER 0 to PLACE 3 and back, being at PLACE 0 behind an even number. */
    static Supplier<SighGuild> walked(String text, int deeds) {
        return Edge.of(text, g -> {
            for (int d = 0; d < deeds; d++) {
                g.walk(0, d % 2 == 0 ? 3 : 0);
            }
        });
    }

    static void all(Edge e) {
        DeedEdges t = new DeedEdges(e);
        e.says(Edge.TERMS, "======== 2 All SIGHERS are at PLACE 0 at first, no ORDER is done, no GOLD.", t::atFirst);
        e.says(Edge.TERMS, "A SIGHER WALKS to a PLACE (as many steps as PLACES apart).", t::walksApart);
        e.says(Edge.TERMS, "It SIGHS an ORDER that is not done: at the PLACE of the house, if it does such a DEPTH, and has "
                + "as much BREATH as that TAKES", t::sighsOnlyIf);
        e.says(Edge.TERMS, "BREATH is less by this, GOLD more by what it BRINGS.", t::sighsLessAndMore);
        e.says(Edge.TERMS, "It RESTS: BREATH is 2 more (9 at most).", t::restsTwoMore);
        e.says(Edge.TERMS, "What is done: WALKING, SIGHING, RESTING.", t::whatIsDone);
        e.says(Edge.TERMS, "These are DEEDS 0, 1, .. (40 at most).", t::fortyDeeds);
        e.says(15, "A SIGHER WALKS to a PLACE: how many steps.", t::walkSteps);
        e.says(15, "BAD; STATE: it is there", t::walkBadThenState);
        e.says(15, "FULL: 40 DEEDS. (FULL last.)", t::walkFull);
        e.says(16, "It SIGHS an ORDER: GOLD then.", t::sighGold);
        e.says(16, "BAD; STATE: it is done, elsewhere, or too deep", t::sighBadThenState);
        e.says(16, "SPENT: there is not so much BREATH", t::sighSpent);
        e.says(16, "FULL. (FULL last.)", t::sighFull);
        e.says(17, "It RESTS: BREATH then.", t::restBreath);
        e.says(17, "BAD; STATE: BREATH is 9", t::restBadThenState);
        e.says(17, "FULL. (FULL last.)", t::restFull);
        e.says(18, "DEEDS from number n on are undone: how many. BAD.", t::undo);
        e.says(19, "The GUILD (as it is, DEEDS)", t::keepAsItIs);
        e.says(19, "is kept in a place (0 .. 2): how many DEEDS.", t::keepDeeds);
        e.says(19, "BAD; STATE: no SIGHERS.", t::keepRefused);
        e.says(20, "The GUILD is as it was kept: how many DEEDS.", t::onAsKept);
        e.says(20, "BAD; NOTHING.", t::onRefused);
    }

    private void atFirst() {
        SighGuild g = MOST.get();
        for (int i = 0; i < 5; i++) {
            e.told("the PLACE of " + i, g, g.sigher(i, 3), 0);
        }
        for (int o = 0; o < 6; o++) {
            e.told("done, of " + o, g, g.order(o, 3), 0);
        }
        e.due("DEEDS", g.count(2), 0);
        e.due("GOLD", g.count(3), 0);
        e.due("done", g.count(4), 0);
    }

    private void walksApart() {
        for (int from = 0; from <= 9; from++) {
            for (int to = 0; to <= 9; to++) {
                SighGuild g = Edge.of("s50 d41 o555", x -> x.walk(0, 7)).get();
                if (from > 0) {
                    g.walk(1, from);
                }
                int steps = from > to ? from - to : to - from;
                e.due("from " + from + " to " + to, g.walk(1, to), steps == 0 ? Check.STATE : steps);
                e.told("there", g, g.sigher(1, 3), to);
                e.told("not the other one", g, g.sigher(0, 3), 7);
                e.due("no BREATH by it", g.count(5), 9);
                e.due("no GOLD by it", g.count(3), 0);
                e.due("nothing done by it", g.count(4), 0);
            }
        }
    }

    /** Each of what it needs is left out once. */
    private void sighsOnlyIf() {
        String[] due = {"s90 o359", "s50 o359", "d20 o359", "m20 o357", "p50 o359", "a30 o339", "f00 o399"};
        int[] gold = {9, 9, 9, 9, 8, 9, 4};
        for (int k = 0; k < due.length; k++) {
            SighGuild g = Edge.of(due[k], x -> x.walk(0, 3)).get();
            e.due("sigh(0, 0) of " + due[k], g.sigh(0, 0), gold[k]);
            e.told("done", g, g.order(0, 3), 1);
            e.refused("done, " + due[k], Edge.of(due[k], x -> x.walk(0, 3), x -> x.sigh(0, 0)), Check.STATE,
                    x -> x.sigh(0, 0));
            e.refused("elsewhere, " + due[k], Edge.of(due[k], x -> x.walk(0, 4)), Check.STATE, x -> x.sigh(0, 0));
            e.refused("at first, " + due[k], Edge.of(due[k]), Check.STATE, x -> x.sigh(0, 0));
        }
        for (String deep : new String[] {"a90 o349", "p90 o379"}) {
            e.refused("too deep, " + deep, Edge.of(deep, x -> x.walk(0, 3)), Check.STATE, x -> x.sigh(0, 0));
        }
        for (String weak : new String[] {"s40 o359", "d10 o359", "m10 o359", "p40 o359", "a20 o339"}) {
            e.refused("weak, " + weak, Edge.of(weak, x -> x.walk(0, 3)), Check.SPENT, x -> x.sigh(0, 0));
        }
    }

    private void sighsLessAndMore() {
        for (char letter : "sdafmp".toCharArray()) {
            int limit = letter == 'a' ? 3 : letter == 'p' ? 6 : 9;
            for (int depth = 1; depth <= limit; depth++) {
                int less = letter == 'f' ? 0 : letter == 'd' || letter == 'm' ? Math.max(1, depth / 2) : depth;
                for (int gold = 0; gold <= 9; gold++) {
                    int more = letter == 'f' ? gold / 2 : letter == 'm' ? gold + 2
                            : letter == 'p' ? Math.max(0, gold - 1) : gold;
                    SighGuild g = Check.guildOf("s50" + letter + "90 o015 o0" + depth + gold);
                    g.sigh(0, 0);
                    String of = letter + " of " + depth + " for " + gold;
                    e.due("GOLD, " + of, g.sigh(1, 1), 5 + more);
                    e.due("GOLD had, " + of, g.count(3), 5 + more);
                    e.told("BREATH, " + of, g, g.sigher(1, 1), 9 - less);
                    e.told("BREATH of the other, " + of, g, g.sigher(0, 1), 4);
                    e.due("done, " + of, g.count(4), 3);
                }
            }
        }
    }

    private void restsTwoMore() {
        for (int breath = 0; breath <= 8; breath++) {
            SighGuild g = Check.guildOf("s" + breath + "0 o010");
            e.due("rest(0) at " + breath, g.rest(0), Math.min(9, breath + 2));
            e.told("BREATH then", g, g.sigher(0, 1), Math.min(9, breath + 2));
            e.due("undo(0)", g.undo(0), 1);
            e.told("BREATH again", g, g.sigher(0, 1), breath);
        }
    }

    private void whatIsDone() {
        Supplier<SighGuild> two = Edge.of("s40 f00 o015 o324", g -> g.row(0, 2), g -> g.walk(1, 3), g -> g.keep(0));
        SighGuild g = two.get();
        e.due("a DEED ahead", g.count(2), 1);
        g.walk(0, 5);
        e.due("WALKING", g.count(2), 2);
        g.sigh(1, 1);
        e.due("SIGHING", g.count(2), 3);
        g.rest(0);
        e.due("RESTING", g.count(2), 4);
        g.lots(3, 1);
        e.due("all by LOTS", g.count(2), 7);
        Edge.Call[] others = {x -> x.row(1, 3), x -> x.lay(0, 0, 1), x -> x.at(0, 0), x -> x.tear(0),
            x -> x.copy(0, 0, 0, 1, 1), x -> x.mean(0), x -> x.text(1, 3), x -> x.put(0, 0, 1), x -> x.fault(0),
            x -> x.sigher(0, 1), x -> x.order(0, 1), x -> x.mark(1, 3), x -> x.undo(1), x -> x.keep(1), x -> x.on(0),
            x -> x.takes(0, 0), x -> x.brings(0, 0), x -> x.give(2), x -> x.most(2), SighGuild::plain,
            x -> x.way(0, 3), x -> x.dusk(0, 30, 2), x -> x.hours(0, 3), x -> x.pairs(9), x -> x.choir(9),
            x -> x.loose(0, 9, 9), x -> x.who(0), x -> x.kinds(0, 0), x -> x.breaths(0, 0), x -> x.strike(2),
            x -> x.odds(1, 1), x -> x.mid(1), SighGuild::asked, x -> x.count(2), SighGuild::finding,
            x -> x.findings(1)};
        for (int k = 0; k < others.length; k++) {
            SighGuild one = two.get();
            others[k].by(one);
            e.due("no DEED by another call, " + k, one.count(2), 1);
        }
    }

    private void fortyDeeds() {
        SighGuild g = walked(TWO, 39).get();
        e.due("39 DEEDS", g.count(2), 39);
        e.due("the fortieth", g.walk(0, 0), 3);
        e.due("40 DEEDS", g.count(2), 40);
        e.due("one more", g.walk(0, 3), Check.FULL);
        e.due("40 DEEDS still", g.count(2), 40);
        e.due("undo(39): the last has number 39", g.undo(39), 1);
        e.due("39 DEEDS", g.count(2), 39);
        e.told("the PLACE", g, g.sigher(0, 3), 3);
    }

    private void walkSteps() {
        for (int from = 0; from <= 9; from++) {
            int start = from;
            Supplier<SighGuild> there = Edge.of("s50 o555", g -> g.walk(0, start));
            e.limits("walk(0, place) from " + from, there, (g, place) -> g.walk(0, place), 0, 9,
                    place -> place == start ? Check.STATE : Math.abs(start - place));
        }
        SighGuild g = ONE.get();
        e.due("walk(0, 9)", g.walk(0, 9), 9);
        e.told("the PLACE", g, g.sigher(0, 3), 9);
        e.told("BREATH", g, g.sigher(0, 1), 5);
        e.due("walk(0, 0)", g.walk(0, 0), 9);
    }

    private void walkBadThenState() {
        e.limits("walk(i, 1) of one", ONE, (g, i) -> g.walk(i, 1), 0, 0, i -> 1);
        e.limits("walk(i, 9) of five", MOST, (g, i) -> g.walk(i, 9), 0, 4, i -> 9);
        e.limits("walk(i, 0) of none", SighGuild::new, (g, i) -> g.walk(i, 0), 0, -1, i -> 0);
        for (int i = 0; i < 5; i++) {
            int who = i;
            e.refused("walk(" + i + ", 0) at first", MOST, Check.STATE, g -> g.walk(who, 0));
        }
        Supplier<SighGuild> nine = Edge.of("s50 d50 o555", g -> g.walk(0, 9));
        e.refused("walk(0, 9) again", nine, Check.STATE, g -> g.walk(0, 9));
        e.refused("walk(0, 10)", nine, Check.BAD, g -> g.walk(0, 10));
        e.refused("walk(1, 0)", nine, Check.STATE, g -> g.walk(1, 0));
    }

    private void walkFull() {
        e.due("walk as the fortieth", walked(TWO, 39).get().walk(1, 9), 9);
        Supplier<SighGuild> full = walked(TWO, 40);
        e.refused("walk(0, 1)", full, Check.FULL, g -> g.walk(0, 1));
        e.refused("walk(2, 9)", full, Check.FULL, g -> g.walk(2, 9));
        e.refused("STATE ahead of FULL", full, Check.STATE, g -> g.walk(0, 0));
        e.refused("BAD ahead of FULL: PLACE", full, Check.BAD, g -> g.walk(0, 10));
        e.refused("BAD ahead of FULL: SIGHER", full, Check.BAD, g -> g.walk(3, 1));
    }

    private void sighGold() {
        SighGuild g = Check.guildOf("m90 p90 f00 o010 o019 o010 o011 o019 o011");
        e.due("by a MASTER, of 0", g.sigh(0, 0), 2);
        e.due("by a MASTER, of 9", g.sigh(0, 1), 13);
        e.due("by a POET, of 0", g.sigh(1, 2), 13);
        e.due("by a POET, of 1", g.sigh(1, 3), 13);
        e.due("by a FORGER, of 9", g.sigh(2, 4), 17);
        e.due("by a FORGER, of 1", g.sigh(2, 5), 17);
        e.due("GOLD", g.count(3), 17);
        SighGuild most = Check.guildOf("m90 o019 o019 o019 o019 o019 o019");
        for (int o = 0; o < 6; o++) {
            e.due("sigh(0, " + o + ")", most.sigh(0, o), 11 * (o + 1));
        }
        e.told("BREATH", most, most.sigher(0, 1), 3);
        e.due("done", most.count(4), 63);
    }

    private void sighBadThenState() {
        e.limits("sigh(i, 0) of five", MOST, (g, i) -> g.sigh(i, 0), 0, 4, i -> i == 4 ? 3 : i == 3 ? 0 : 1);
        e.limits("sigh(0, o) of six", MOST, (g, o) -> g.sigh(0, o), 0, 5, o -> 1);
        e.limits("sigh(i, 0) of none", SighGuild::new, (g, i) -> g.sigh(i, 0), 0, -1, i -> 0);
        Supplier<SighGuild> done = Edge.of("s90 d90 o015 o115", g -> g.sigh(0, 0));
        e.refused("done, by itself", done, Check.STATE, g -> g.sigh(0, 0));
        e.refused("done, by another", done, Check.STATE, g -> g.sigh(1, 0));
        e.refused("elsewhere", done, Check.STATE, g -> g.sigh(0, 1));
        e.refused("done, no such SIGHER", done, Check.BAD, g -> g.sigh(2, 0));
        e.refused("elsewhere, no such ORDER", done, Check.BAD, g -> g.sigh(0, 2));
        e.refused("elsewhere, behind it", Edge.of("s90 o815", g -> g.walk(0, 9)), Check.STATE, g -> g.sigh(0, 0));
        e.due("there, at PLACE 9", Edge.of("s90 o915", g -> g.walk(0, 9)).get().sigh(0, 0), 5);
        e.refused("too deep for an APPRENTICE", Edge.of("a90 o045"), Check.STATE, g -> g.sigh(0, 0));
        e.due("not too deep for an APPRENTICE", Check.guildOf("a30 o035").sigh(0, 0), 5);
        e.refused("too deep for a POET", Edge.of("p90 o075"), Check.STATE, g -> g.sigh(0, 0));
        e.due("not too deep for a POET", Check.guildOf("p60 o065").sigh(0, 0), 4);
        e.refused("STATE ahead of SPENT: too deep", Edge.of("a00 o045"), Check.STATE, g -> g.sigh(0, 0));
        e.refused("STATE ahead of SPENT: elsewhere", Edge.of("s00 o145"), Check.STATE, g -> g.sigh(0, 0));
        e.refused("STATE ahead of SPENT: done", Edge.of("s00 f00 o045", g -> g.sigh(1, 0)), Check.STATE,
                g -> g.sigh(0, 0));
    }

    private void sighSpent() {
        for (int depth = 1; depth <= 9; depth++) {
            SighGuild g = Check.guildOf("s" + depth + "0 o0" + depth + "7");
            e.due("as much BREATH as " + depth, g.sigh(0, 0), 7);
            e.told("BREATH then", g, g.sigher(0, 1), 0);
            e.refused("1 less than " + depth, Edge.of("s" + (depth - 1) + "0 o0" + depth + "7"), Check.SPENT,
                    x -> x.sigh(0, 0));
            int half = Math.max(1, depth / 2);
            for (String letter : new String[] {"d", "m"}) {
                SighGuild h = Check.guildOf(letter + half + "0 o0" + depth + "7");
                e.due(letter + " as much as half of " + depth, h.sigh(0, 0), letter.equals("m") ? 9 : 7);
                e.told("BREATH then", h, h.sigher(0, 1), 0);
                e.refused(letter + " 1 less than half of " + depth, Edge.of(letter + (half - 1) + "0 o0" + depth + "7"),
                        Check.SPENT, x -> x.sigh(0, 0));
            }
            SighGuild forger = Check.guildOf("f00 o0" + depth + "7");
            e.due("a FORGER without BREATH", forger.sigh(0, 0), 3);
            e.told("BREATH then", forger, forger.sigher(0, 1), 0);
        }
    }

    private void sighFull() {
        e.due("sigh as the fortieth", Edge.of("s30 o331", g -> {
            for (int d = 0; d < 39; d++) {
                g.walk(0, d % 2 == 0 ? 3 : 0);
            }
        }).get().sigh(0, 0), 1);
        Supplier<SighGuild> full = walked(TWO, 40);
        e.refused("sigh(0, 0)", full, Check.FULL, g -> g.sigh(0, 0));
        e.refused("sigh(1, 1)", full, Check.FULL, g -> g.sigh(1, 1));
        e.refused("SPENT ahead of FULL", full, Check.SPENT, g -> g.sigh(0, 1));
        e.refused("STATE ahead of FULL: too deep", full, Check.STATE, g -> g.sigh(2, 1));
        e.refused("STATE ahead of FULL: elsewhere", walked("s30 o131", 40), Check.STATE, g -> g.sigh(0, 0));
        e.refused("STATE ahead of FULL: done", Edge.of("s30 o031", g -> {
            g.sigh(0, 0);
            for (int d = 0; d < 39; d++) {
                g.walk(0, d % 2 == 0 ? 3 : 0);
            }
        }), Check.STATE, g -> g.sigh(0, 0));
        e.refused("BAD ahead of FULL: ORDER", full, Check.BAD, g -> g.sigh(0, 2));
        e.refused("BAD ahead of FULL: SIGHER", full, Check.BAD, g -> g.sigh(3, 0));
    }

    private void restBreath() {
        SighGuild g = Check.guildOf("s00 o010");
        int[] due = {2, 4, 6, 8, 9};
        for (int want : due) {
            e.due("rest(0)", g.rest(0), want);
        }
        e.due("rest(0) at 9", g.rest(0), Check.STATE);
        e.due("DEEDS", g.count(2), 5);
        e.due("rest(0) at 7", Check.guildOf("f70 o010").rest(0), 9);
        e.due("rest(0) behind a SIGH", Edge.of("s90 o011", x -> x.sigh(0, 0)).get().rest(0), 9);
    }

    private void restBadThenState() {
        e.limits("rest(i) of one", ONE, SighGuild::rest, 0, 0, i -> 7);
        e.limits("rest(i) of five", MOST, SighGuild::rest, 0, 4, i -> i + 3);
        e.limits("rest(i) of none", SighGuild::new, SighGuild::rest, 0, -1, i -> 0);
        for (char letter : "sdafmp".toCharArray()) {
            e.refused(letter + " at 9", Edge.of(letter + "90 o010"), Check.STATE, g -> g.rest(0));
        }
        e.refused("at 9, by a rest", Edge.of("s80 o010", g -> g.rest(0)), Check.STATE, g -> g.rest(0));
        e.refused("BAD ahead of STATE", Edge.of("s90 o010"), Check.BAD, g -> g.rest(1));
    }

    private void restFull() {
        e.due("rest as the fortieth", walked(TWO, 39).get().rest(0), 5);
        Supplier<SighGuild> full = walked(TWO, 40);
        e.refused("rest(0)", full, Check.FULL, g -> g.rest(0));
        e.refused("STATE ahead of FULL", full, Check.STATE, g -> g.rest(1));
        e.refused("BAD ahead of FULL", full, Check.BAD, g -> g.rest(3));
    }

    private void undo() {
        for (int deeds : new int[] {0, 1, 2, 39, 40}) {
            e.limits("undo(n) of " + deeds, walked(TWO, deeds), SighGuild::undo, 0, deeds, n -> deeds - n);
        }
        e.limits("undo(n) without a GUILD", SighGuild::new, SighGuild::undo, 0, 0, n -> 0);
        SighGuild g = walked(TWO, 40).get();
        long[] due = new long[41];
        for (int n = 0; n <= 40; n++) {
            due[n] = walked(TWO, n).get().digest();
        }
        for (int n : new int[] {40, 39, 38, 20, 1, 0, 0}) {
            int before = g.count(2);
            e.due("undo(" + n + ")", g.undo(n), before - n);
            e.due("as behind " + n + " DEEDS", g.digest(), due[n]);
        }
        SighGuild h = Edge.of("s80 f00 o015 o324", x -> x.sigh(0, 0), x -> x.rest(0), x -> x.walk(1, 3),
                x -> x.sigh(1, 1)).get();
        e.due("undo(4)", h.undo(4), 0);
        e.due("GOLD", h.count(3), 7);
        e.due("undo(1)", h.undo(1), 3);
        e.due("GOLD", h.count(3), 5);
        e.told("BREATH, not rested", h, h.sigher(0, 1), 7);
        e.told("the PLACE", h, h.sigher(1, 3), 0);
        e.told("done", h, h.order(1, 3), 0);
        e.due("undo(0)", h.undo(0), 1);
        e.due("GOLD", h.count(3), 0);
        e.told("BREATH", h, h.sigher(0, 1), 8);
        e.due("then it can be done by another", h.sigh(1, 0), 2);
        SighGuild kept = walked(TWO, 5).get();
        kept.keep(1);
        e.due("undo(0)", kept.undo(0), 5);
        e.due("kept GUILDS stay", kept.on(1), 5);
    }

    private void keepAsItIs() {
        Edge.Script deeds = g -> {
            g.walk(1, 3);
            g.sigh(0, 0);
            g.rest(0);
            g.sigh(1, 1);
            g.walk(0, 4);
        };
        for (int k = 0; k < 3; k++) {
            int place = k;
            SighGuild twin = Edge.of("s40 f00 o015 o324", deeds).get();
            SighGuild g = Edge.of("s40 f00 o015 o324", deeds, x -> x.keep(place)).get();
            for (int what = 0; what < 10; what++) {
                e.due("count(" + what + ") is not changed by it", g.count(what), twin.count(what));
            }
            g.undo(2);
            g.walk(1, 9);
            g.lots(9, 9);
            e.due("on(" + k + ")", g.on(k), 5);
            for (int what = 0; what < 10; what++) {
                e.due("count(" + what + ") as kept", g.count(what), twin.count(what));
            }
            twin.keep(k);
            for (int n = 5; n >= 0; n--) {
                g.undo(n);
                twin.undo(n);
                e.due("its DEEDS as kept, behind " + n, g.digest(), twin.digest());
            }
        }
    }

    private void keepDeeds() {
        for (int deeds : new int[] {0, 1, 39, 40}) {
            e.limits("keep(k) of " + deeds, walked(TWO, deeds), SighGuild::keep, 0, 2, k -> deeds);
        }
        SighGuild g = walked(TWO, 3).get();
        for (int k = 0; k < 3; k++) {
            e.due("count(10)", g.count(10), k);
            e.due("keep(" + k + ")", g.keep(k), 3 + k);
            g.rest(0);
            g.undo(3 + k);
            g.walk(1, 5 + k);
        }
        e.due("count(10), all", g.count(10), 3);
        e.due("keep(1) over another", g.keep(1), 6);
        e.due("count(10), all still", g.count(10), 3);
        for (int k = 0; k < 3; k++) {
            e.due("on(" + k + ")", g.on(k), k == 1 ? 6 : 3 + k);
        }
    }

    private void keepRefused() {
        e.limits("keep(k) without SIGHERS", SighGuild::new, SighGuild::keep, 0, 2, k -> Check.STATE);
        for (int k = 0; k < 3; k++) {
            int place = k;
            e.refused("keep(" + k + ")", SighGuild::new, Check.STATE, g -> g.keep(place));
        }
        for (int k : new int[] {MIN, -1, 3, 4, MAX}) {
            e.refused("BAD ahead of STATE: keep(" + k + ")", SighGuild::new, Check.BAD, g -> g.keep(k));
            e.refused("keep(" + k + ")", walked(TWO, 40), Check.BAD, g -> g.keep(k));
        }
        e.refused("keep(0) behind a FAULT", Edge.anew(g -> g.text(0, 3), g -> g.guild(0)), Check.STATE,
                g -> g.keep(0));
    }

    private void onAsKept() {
        Supplier<SighGuild> state = Edge.of("s80 f00 o015 o324", x -> x.keep(2), x -> x.sigh(0, 0), x -> x.rest(0),
                x -> x.keep(0), x -> x.walk(1, 3), x -> x.sigh(1, 1));
        e.limits("on(k)", Edge.of("s80 o015", g -> {
            for (int k = 0; k < 3; k++) {
                g.keep(k);
                g.walk(0, k + 1);
            }
        }), SighGuild::on, 0, 2, k -> k);
        SighGuild g = state.get();
        e.due("on(2), of none", g.on(2), 0);
        e.due("DEEDS", g.count(2), 0);
        e.due("GOLD", g.count(3), 0);
        e.due("done", g.count(4), 0);
        e.due("BREATH", g.count(5), 8);
        e.due("on(0)", g.on(0), 2);
        e.due("GOLD", g.count(3), 5);
        e.due("done", g.count(4), 1);
        e.due("BREATH", g.count(5), 9);
        e.due("kept still", g.count(10), 2);
        e.due("its DEEDS are DEEDS", g.undo(1), 1);
        e.told("BREATH", g, g.sigher(0, 1), 7);
        e.due("on(0) again", g.on(0), 2);
        e.told("BREATH", g, g.sigher(0, 1), 9);
        SighGuild other = Edge.of("s80 f00 o015 o324", x -> x.sigh(0, 0), x -> x.walk(0, 4), x -> x.keep(1),
                x -> x.undo(0), x -> x.walk(1, 3), x -> x.sigh(1, 1), x -> x.rest(0), x -> x.keep(2), x -> x.undo(0),
                x -> x.walk(0, 9)).get();
        e.due("on(1) behind other DEEDS", other.on(1), 2);
        e.due("GOLD", other.count(3), 5);
        e.due("done", other.count(4), 1);
        e.told("the PLACE", other, other.sigher(0, 3), 4);
        e.due("on(2) behind other DEEDS", other.on(2), 3);
        e.due("GOLD", other.count(3), 2);
        e.due("done", other.count(4), 2);
        e.due("BREATH", other.count(5), 9);
        e.told("the PLACE", other, other.sigher(0, 3), 0);
        e.due("undo(1)", other.undo(1), 2);
        e.told("the PLACE", other, other.sigher(1, 3), 3);
        e.due("GOLD", other.count(3), 0);
        SighGuild full = walked(TWO, 40).get();
        full.keep(1);
        full.undo(0);
        e.due("on(1), of 40", full.on(1), 40);
        e.due("full again", full.walk(0, 1), Check.FULL);
        e.due("undo(0)", full.undo(0), 40);
    }

    private void onRefused() {
        e.limits("on(k) of none kept", walked(TWO, 3), SighGuild::on, 0, 2, k -> Check.FINDING);
        for (int k = 0; k < 3; k++) {
            int place = k;
            e.refused("on(" + k + ") of a new object", SighGuild::new, Check.NOTHING, g -> g.on(place));
            e.refused("on(" + k + ") of none kept", walked(TWO, 40), Check.NOTHING, g -> g.on(place));
            e.refused("on(" + k + "), others kept", Edge.of(TWO, g -> {
                for (int other = 0; other < 3; other++) {
                    if (other != place) {
                        g.rest(0);
                        g.keep(other);
                    }
                }
            }), Check.NOTHING, g -> g.on(place));
        }
        e.refused("BAD ahead of NOTHING", SighGuild::new, Check.BAD, g -> g.on(3));
        e.refused("BAD ahead of NOTHING", SighGuild::new, Check.BAD, g -> g.on(-1));
    }
}
