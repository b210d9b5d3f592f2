import java.math.BigInteger;
import java.util.ArrayList;
import java.util.List;
import java.util.function.Supplier;

/** The boundary cases of promises 39 to 45. */
final class ToldEdges {
    private static final int MIN = Integer.MIN_VALUE, MAX = Integer.MAX_VALUE;
    private static final Supplier<SighGuild> SAID = Edge.of("s90 d45 o015 o926", g -> Check.lay(g, 0, 77, 78),
            g -> g.row(1, 0), g -> g.at(0, 1));
    private final Edge e;

    private ToldEdges(Edge e) {
        this.e = e;
    }

    static void all(Edge e) {
        ToldEdges t = new ToldEdges(e);
        e.says(39, "What the latest lay(), at(), mean(), sigher(), order(), plain(), pairs(), choir()", t::askedBy);
        e.says(39, "that was not refused told", t::askedRefused);
        e.says(39, "0 before.", () -> t.before(SighGuild::asked, 0));
        e.says(40, "The upper number that was told last; 0 before.", t::upper);
        e.says(41, "Its lower number; 1 before.", t::lower);
        e.says(42, "0 SIGHERS, 1 ORDERS, 2 DEEDS, 3 GOLD, 4 ORDERS done (bits), 5 all BREATH, 6 DEEP ones (MASTERS, too), "
                + "7 APPRENTICES (POETS, too), 8 ROWS, 9 TEXTS that are there, 10 kept GUILDS.", t::countLimits);
        e.says(42, "BAD.", t::countBad);
        e.says(43, "The latest FINDING (0 before any).", t::latestFinding);
        e.says(44, "How often a FINDING (1 .. 5) was answered.", t::howOften);
        e.says(44, "BAD.", t::findingsBad);
        e.says(45, "h = 17; then h = 31 h + v for each v: count() 0 to 10; of each SIGHER sigher() 0 to 4; "
                + "of each ORDER order() 0 to 4", t::digestOfGuild);
        e.says(45, "of each kept GUILD how many DEEDS (-1: missing)", t::digestOfKept);
        e.says(45, "of each ROW its size (-1: missing) and places, of each TEXT likewise.", t::digestOfRows);
    }

    private interface Told {
        long by(SighGuild g);
    }

    /** What is told on a new object, and still behind calls that tell nothing of it, and behind refused ones. */
    private void before(Told told, long want) {
        e.due("of a new object", told.by(new SighGuild()), want);
        SighGuild g = Check.guildOf("s90 d45 o015 o926");
        g.row(0, 3);
        g.copy(0, 0, 0, 1, 2);
        g.walk(0, 9);
        g.sigh(0, 1);
        g.rest(1);
        g.keep(0);
        g.undo(0);
        g.on(0);
        g.give(1);
        g.most(2);
        g.dusk(0, 30, 3);
        g.strike(2);
        g.lots(3, 9);
        g.row(4, 0);
        g.who(4);
        g.kinds(0, 4);
        g.breaths(0, 4);
        g.guild(0);
        e.due("behind other calls", told.by(g), want);
        SighGuild refused = new SighGuild();
        refused.at(6, 0);
        refused.lay(6, 0, 0);
        refused.mean(6);
        refused.sigher(0, 0);
        refused.order(0, 0);
        refused.plain();
        refused.pairs(10);
        refused.choir(0);
        refused.odds(0, 0);
        refused.mid(0);
        e.due("behind refused calls", told.by(refused), want);
    }

    private void asked(String call, Edge.Call by, int want) {
        SighGuild g = SAID.get();
        e.due("asked() ahead of " + call, g.asked(), 78);
        by.by(g);
        e.due("asked() behind " + call, g.asked(), want);
        e.due("asked() again", g.asked(), want);
    }

    private void askedBy() {
        asked("lay()", g -> g.lay(0, 0, 5), 77);
        asked("at()", g -> g.at(0, 0), 77);
        asked("mean()", g -> g.mean(0), 77);
        asked("sigher()", g -> g.sigher(1, 1), 4);
        asked("order()", g -> g.order(1, 0), 9);
        asked("plain()", SighGuild::plain, 11);
        asked("pairs()", g -> g.pairs(0), Check.NONE);
        asked("choir()", g -> g.choir(9), 3);
        Edge.Call[] others = {g -> g.row(0, 1), g -> g.tear(0), g -> g.copy(0, 0, 0, 1, 1), g -> g.text(0, 5),
            g -> g.put(0, 0, 5), g -> g.fault(0), g -> g.guild(0), g -> g.mark(1, 1), g -> g.walk(0, 5),
            g -> g.sigh(0, 0), g -> g.rest(1), g -> g.undo(0), g -> g.keep(0), g -> g.takes(0, 0), g -> g.brings(0, 0),
            g -> g.give(2), g -> g.most(2), g -> g.way(0, 3), g -> g.dusk(0, 30, 2), g -> g.hours(0, 3),
            g -> g.loose(0, 9, 20), g -> g.who(1), g -> g.kinds(0, 1), g -> g.breaths(0, 1), g -> g.strike(2),
            g -> g.odds(1, 1), g -> g.mid(1), g -> g.lots(3, 3), g -> g.count(0), g -> g.finding(), g -> g.findings(1),
            g -> (int) g.upper(), g -> (int) g.lower(), g -> (int) g.digest()};
        for (int k = 0; k < others.length; k++) {
            asked("another call, " + k, others[k], 78);
        }
        asked("on()", g -> g.keep(1) + g.on(1), 78);
    }

    private void askedRefused() {
        Edge.Call[] refused = {g -> g.lay(0, 2, 5), g -> g.lay(2, 0, 5), g -> g.lay(6, 0, 5), g -> g.at(0, -1),
            g -> g.at(2, 0), g -> g.at(-1, 0), g -> g.mean(1), g -> g.mean(2), g -> g.mean(6), g -> g.sigher(2, 0),
            g -> g.sigher(0, 5), g -> g.order(2, 0), g -> g.order(0, 5), g -> g.pairs(10), g -> g.pairs(-1),
            g -> g.choir(10), g -> g.choir(-1)};
        for (int k = 0; k < refused.length; k++) {
            asked("a refused call, " + k, refused[k], 78);
        }
        SighGuild none = Edge.anew(g -> Check.lay(g, 0, 78), g -> g.at(0, 0)).get();
        e.due("plain()", none.plain(), Check.STATE);
        e.due("choir(0)", none.choir(0), Check.STATE);
        e.due("asked() behind plain(), choir() refused", none.asked(), 78);
    }

    private void upper() {
        before(SighGuild::upper, 0);
        SighGuild g = Check.guildOf("s90 o019");
        g.odds(9, 5);
        e.due("upper()", g.upper(), 7);
        g.odds(67, 5);
        g.odds(9, 13);
        g.mid(-1);
        e.due("upper() behind refused calls", g.upper(), 7);
        g.sigh(0, 0);
        g.guild(0);
        g.plain();
        e.due("upper() behind others", g.upper(), 7);
        g.mid(1);
        e.due("upper() behind mid()", g.upper(), 33);
        g.odds(9, 12);
        e.due("upper() of none", g.upper(), 0);
    }

    private void lower() {
        before(SighGuild::lower, 1);
        SighGuild g = Check.guildOf("s90 o019");
        g.odds(9, 5);
        e.due("lower()", g.lower(), 12);
        g.odds(-1, 5);
        g.odds(9, -1);
        g.mid(13);
        e.due("lower() behind refused calls", g.lower(), 12);
        g.sigh(0, 0);
        g.guild(0);
        g.plain();
        e.due("lower() behind others", g.lower(), 12);
        g.mid(1);
        e.due("lower() behind mid()", g.lower(), 4);
        g.odds(9, 12);
        e.due("lower() of none", g.lower(), 1);
    }

    private void countLimits() {
        e.limits("count(what) of a new object", SighGuild::new, SighGuild::count, 0, 10, what -> 0);
        Supplier<SighGuild> most = Edge.of("m90m90m90m90m90o019o019o019o019o019o019", g -> {
            for (int o = 0; o < 6; o++) {
                g.sigh(0, o);
            }
            for (int d = 6; d < 37; d++) {
                g.walk(1, d % 2 == 0 ? 9 : 0);
            }
            g.rest(0);
            g.rest(0);
            g.rest(0);
            for (int k = 0; k < 6; k++) {
                g.row(k, 0);
                g.keep(k);
            }
            g.text(1, 0);
            g.text(2, 60);
            g.text(3, 1);
        });
        int[] due = {5, 6, 40, 66, 63, 45, 5, 0, 6, 4, 3};
        e.limits("count(what) of the most", most, SighGuild::count, 0, 10, what -> due[what]);
        Supplier<SighGuild> least = Edge.of("p00 o010", g -> g.row(0, 0));
        int[] few = {1, 1, 0, 0, 0, 0, 0, 1, 1, 1, 0};
        e.limits("count(what) of few", least, SighGuild::count, 0, 10, what -> few[what]);
        Supplier<SighGuild> apprentices = Edge.of("a10p10a10p10d10 o010 o010 o010 o010 o010 o014",
                g -> g.sigh(0, 5), g -> g.sigh(1, 0), g -> g.tear(0), g -> g.row(5, 1));
        int[] some = {5, 6, 2, 4, 33, 3, 1, 4, 1, 1, 0};
        e.limits("count(what) of some", apprentices, SighGuild::count, 0, 10, what -> some[what]);
    }

    private void countBad() {
        for (int what : new int[] {MIN, -2, -1, 11, 12, MAX}) {
            e.refused("count(" + what + ")", SAID, Check.BAD, g -> g.count(what));
            e.refused("count(" + what + ") of a new object", SighGuild::new, Check.BAD, g -> g.count(what));
        }
    }

    private void latestFinding() {
        before(SighGuild::finding, 0);
        SighGuild g = SAID.get();
        Edge.Call[] found = {x -> x.at(5, 0), x -> x.at(0, 2), x -> x.mark(0, 1), x -> x.mean(1), x -> x.row(0, -1)};
        for (int k = 0; k < 10; k++) {
            int f = k % 5 + 1;
            e.due("finding " + f, found[f - 1].by(g), Check.FINDING);
            e.due("finding()", g.finding(), f);
            g.at(6, 0);
            g.at(0, 0);
            g.guild(0);
            e.due("finding() stays", g.finding(), f);
            e.due("finding() again", g.finding(), f);
        }
    }

    private void howOften() {
        SighGuild g = SAID.get();
        Edge.Call[] found = {x -> x.at(5, 0), x -> x.at(0, 2), x -> x.mark(0, 1), x -> x.mean(1), x -> x.row(0, -1)};
        for (int f = 1; f <= 5; f++) {
            e.due("findings(" + f + ") at first", g.findings(f), 0);
            for (int k = 0; k < f; k++) {
                found[f - 1].by(g);
            }
        }
        g.at(6, 0);
        g.guild(0);
        for (int f = 1; f <= 5; f++) {
            e.due("findings(" + f + ")", g.findings(f), f);
        }
        SighGuild many = new SighGuild();
        for (int k = 0; k < 500; k++) {
            many.at(0, 0);
        }
        e.due("findings(1) of 500", many.findings(1), 500);
        e.due("findings(2)", many.findings(2), 0);
    }

    private void findingsBad() {
        e.limits("findings(f) of a new object", SighGuild::new, SighGuild::findings, 1, 5, f -> 0);
        Supplier<SighGuild> state = Edge.anew(g -> g.at(0, 0), g -> g.row(0, -1), g -> g.row(0, -1));
        int[] due = {1, 0, 0, 0, 2};
        e.limits("findings(f)", state, SighGuild::findings, 1, 5, f -> due[f - 1]);
    }

    /** The same sum in numbers without an end, cut to 64 bits at last. */
    private static long fold(List<Integer> values) {
        BigInteger h = BigInteger.valueOf(17);
        for (int v : values) {
            h = h.multiply(BigInteger.valueOf(31)).add(BigInteger.valueOf(v));
        }
        return h.longValue();
    }

    private static void add(List<Integer> all, int... values) {
        for (int v : values) {
            all.add(v);
        }
    }

    private static void missing(List<Integer> all, int many) {
        for (int k = 0; k < many; k++) {
            all.add(-1);
        }
    }

    private void digestOfGuild() {
        List<Integer> none = new ArrayList<>();
        add(none, new int[11]);
        missing(none, 13);
        e.due("digest() of a new object", new SighGuild().digest(), fold(none));
        List<Integer> all = new ArrayList<>();
        String text = "p98d07o019o997";
        add(all, 2, 2, 2, 8, 1, 3, 1, 1, 0, 1, 0);
        add(all, 5, 3, 8, 9, 0);
        add(all, 1, 0, 7, 0, 0);
        add(all, 0, 1, 9, 1, 0);
        add(all, 9, 9, 7, 0, 0);
        missing(all, 3 + 6);
        add(all, text.length());
        text.chars().forEach(all::add);
        missing(all, 3);
        SighGuild g = Check.guildOf("p48d07o019o997");
        g.put(0, 1, '9');
        g.sigh(0, 0);
        g.walk(0, 9);
        e.due("digest() of a GUILD", g.digest(), fold(all));
        e.due("digest() again", g.digest(), fold(all));
    }

    private void digestOfKept() {
        int[][] kept = {{-1, -1, -1}, {0, -1, -1}, {-1, 0, -1}, {-1, -1, 0}, {0, 1, 2}, {2, 1, 0}, {40, -1, 40}};
        for (int[] k : kept) {
            SighGuild g = Check.guildOf("s00o010");
            int there = 0;
            for (int place = 0; place < 3; place++) {
                g.undo(0);
                for (int d = 0; d < k[place]; d++) {
                    g.walk(0, d % 2 == 0 ? 3 : 0);
                }
                if (k[place] >= 0) {
                    g.keep(place);
                    there++;
                }
            }
            g.undo(0);
            List<Integer> all = new ArrayList<>();
            add(all, 1, 1, 0, 0, 0, 0, 0, 0, 0, 1, there);
            add(all, 0, 0, 0, 0, 0);
            add(all, 0, 1, 0, 0, 0);
            add(all, k);
            missing(all, 6);
            add(all, 7, 's', '0', '0', 'o', '0', '1', '0');
            missing(all, 3);
            e.due("digest()", g.digest(), fold(all));
        }
    }

    private void digestOfRows() {
        int[] wild = {MIN, MAX, -1, 0, 1, MIN + 1, MAX - 1};
        for (int r = 0; r < 6; r++) {
            SighGuild g = new SighGuild();
            Check.lay(g, r, wild);
            g.row((r + 1) % 6, 0);
            g.row((r + 2) % 6, 40);
            List<Integer> all = new ArrayList<>();
            add(all, 0, 0, 0, 0, 0, 0, 0, 0, 3, 0, 0);
            missing(all, 3);
            for (int k = 0; k < 6; k++) {
                int which = (k - r + 6) % 6;
                int[] ints = which == 0 ? wild : new int[which == 1 ? 0 : 40];
                add(all, which > 2 ? -1 : ints.length);
                add(all, which > 2 ? new int[0] : ints);
            }
            missing(all, 4);
            e.due("digest() of ROW " + r, g.digest(), fold(all));
        }
        for (int t = 0; t < 4; t++) {
            SighGuild g = new SighGuild();
            g.text(t, 4);
            g.put(t, 0, 127);
            g.put(t, 1, 128);
            g.put(t, 2, 255);
            g.text((t + 1) % 4, 0);
            List<Integer> all = new ArrayList<>();
            add(all, 0, 0, 0, 0, 0, 0, 0, 0, 0, 2, 0);
            missing(all, 3 + 6);
            for (int k = 0; k < 4; k++) {
                add(all, k == t ? new int[] {4, 127, -128, -1, 32} : new int[] {k == (t + 1) % 4 ? 0 : -1});
            }
            e.due("digest() of TEXT " + t, g.digest(), fold(all));
        }
        SighGuild torn = Edge.anew(g -> Check.lay(g, 0, wild), g -> g.tear(0)).get();
        e.due("digest() behind tear()", torn.digest(), new SighGuild().digest());
    }
}
