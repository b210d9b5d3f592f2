import java.util.function.Supplier;

/** The boundary cases of promises 29 to 31. */
final class TuneEdges {
    private static final Supplier<SighGuild> STREET = Edge.of("f00 o010 o110 o210 o810 o910 o710");
    private final Edge e;

    private TuneEdges(Edge e) {
        this.e = e;
    }

    static void all(Edge e) {
        TuneEdges t = new TuneEdges(e);
        e.says(29, "How many pairs of SIGHERS are in tune (TUNES no more than t (0 .. 9) apart)", t::apart);
        e.says(29, "the first by asked() (5 times the lesser, and the other; NONE)", t::firstPair);
        e.says(29, "BAD.", t::pairsBad);
        e.says(30, "The set of most SIGHERS of whom any two are in tune", t::mostSighers);
        e.says(30, "which by asked() (bits; the least number)", t::leastNumber);
        e.says(30, "BAD; STATE: no SIGHERS.", t::choirRefused);
        e.says(31, "A SIGH of a DEPTH (1 .. 9) got loose at a PLACE", t::depthAndPlace);
        e.says(31, "in each of n (0 .. 20) HOURS it goes one PLACE on", t::looseHours);
        e.says(31, "(behind 9 it comes back to 0)", t::comesBack);
        e.says(31, "and is 1 less deep; while it is 1 or more deep it touches houses where it is (at first, too)",
                t::whileDeep);
        e.says(31, "ORDERS (bits) of these, done or not.", t::doneOrNot);
        e.says(31, "BAD.", t::looseBad);
    }

    private void pairs(String text, int t, int want, int first) {
        SighGuild g = Check.guildOf(text + "o111");
        e.due("pairs(" + t + ") of " + text, g.pairs(t), want);
        e.due("the first of " + text, g.asked(), first);
    }

    private void apart() {
        for (int low = 0; low <= 9; low++) {
            for (int high = low; high <= 9; high++) {
                for (int t = 0; t <= 9; t++) {
                    boolean in = high - low <= t;
                    pairs("s0" + low + "d0" + high, t, in ? 1 : 0, in ? 1 : Check.NONE);
                    pairs("s0" + high + "d0" + low, t, in ? 1 : 0, in ? 1 : Check.NONE);
                }
            }
        }
        pairs("s05s05s05s05s05", 0, 10, 1);
        pairs("s00s09s00s09s00", 0, 4, 2);
        pairs("s00s09s00s09s00", 8, 4, 2);
        pairs("s00s09s00s09s00", 9, 10, 1);
        pairs("s01s03s05s07s09", 1, 0, Check.NONE);
        pairs("s01s03s05s07s09", 2, 4, 1);
    }

    private void firstPair() {
        for (int i = 0; i < 5; i++) {
            for (int j = i + 1; j < 5; j++) {
                StringBuilder text = new StringBuilder();
                int other = 0;
                for (int k = 0; k < 5; k++) {
                    text.append("s0").append(k == i || k == j ? 9 : 2 * other);
                    other += k == i || k == j ? 0 : 1;
                }
                pairs(text.toString(), 0, 1, 5 * i + j);
            }
        }
        pairs("s05", 9, 0, Check.NONE);
        SighGuild none = new SighGuild();
        none.row(0, 1);
        none.at(0, 0);
        e.due("pairs(9) without SIGHERS", none.pairs(9), 0);
        e.due("asked()", none.asked(), Check.NONE);
    }

    private void pairsBad() {
        e.limits("pairs(t)", Edge.of("s00 s09 o111"), SighGuild::pairs, 0, 9, t -> t == 9 ? 1 : 0);
        e.limits("pairs(t) without SIGHERS", SighGuild::new, SighGuild::pairs, 0, 9, t -> 0);
    }

    private void choir(String text, int t, int want, int set) {
        SighGuild g = Check.guildOf(text + "o111");
        e.due("choir(" + t + ") of " + text, g.choir(t), want);
        e.due("which of " + text, g.asked(), set);
    }

    private void mostSighers() {
        choir("s05", 0, 1, 1);
        choir("s05", 9, 1, 1);
        choir("s05s05s05s05s05", 0, 5, 31);
        choir("s00s09s00s09s00", 9, 5, 31);
        choir("s00s09s00s09s00", 8, 3, 21);
        choir("s00s03s06", 3, 2, 3);
        choir("s00s03s06", 5, 2, 3);
        choir("s00s03s06", 6, 3, 7);
        choir("s00s03s06s09", 6, 3, 7);
        choir("s09s00s03s06", 6, 3, 13);
        choir("s00s05s09s09s09", 3, 3, 28);
        choir("s00s05s09s09s09", 4, 4, 30);
    }

    private void leastNumber() {
        choir("s01s03s05s07s09", 0, 1, 1);
        choir("s01s03s05s07s09", 2, 2, 3);
        choir("s01s09s01s09", 0, 2, 5);
        choir("s09s01s01s09", 0, 2, 6);
        choir("s09s01s05s01s09", 0, 2, 10);
        choir("s00s01s02s03s04", 2, 3, 7);
        choir("s04s00s03s01s02", 2, 3, 21);
    }

    private void choirRefused() {
        e.limits("choir(t)", Edge.of("s00 s09 o111"), SighGuild::choir, 0, 9, t -> t == 9 ? 2 : 1);
        e.limits("BAD ahead of STATE: choir(t)", SighGuild::new, SighGuild::choir, 0, 9, t -> Check.STATE);
        e.refused("choir(0)", SighGuild::new, Check.STATE, g -> g.choir(0));
        e.refused("choir(9) behind a FAULT", Edge.anew(g -> g.text(0, 3), g -> g.guild(0)), Check.STATE,
                g -> g.choir(9));
    }

    private void loose(int place, int depth, int n, int want) {
        e.due("loose(" + place + ", " + depth + ", " + n + ")", STREET.get().loose(place, depth, n), want);
    }

    private void depthAndPlace() {
        int[] due = {1, 2, 4, 0, 0, 0, 0, 32, 8, 16};
        e.limits("loose(place, 1, 20)", STREET, (g, place) -> g.loose(place, 1, 20), 0, 9, place -> due[place]);
        int[] deep = {1, 3, 7, 7, 7, 7, 7, 39, 47};
        e.limits("loose(0, depth, 20)", STREET, (g, depth) -> g.loose(0, depth, 20), 1, 9, depth -> deep[depth - 1]);
    }

    private void looseHours() {
        int[] due = {1, 3, 7, 7, 7, 7, 7, 39, 47};
        e.limits("loose(0, 9, n)", STREET, (g, n) -> g.loose(0, 9, n), 0, 20, n -> due[Math.min(n, 8)]);
        e.limits("loose(1, 9, n)", STREET, (g, n) -> g.loose(1, 9, n), 0, 20,
                n -> new int[] {2, 6, 6, 6, 6, 6, 38, 46, 62}[Math.min(n, 8)]);
    }

    private void comesBack() {
        loose(9, 1, 20, 16);
        loose(9, 2, 0, 16);
        loose(9, 2, 1, 17);
        loose(9, 3, 2, 19);
        loose(9, 9, 20, 55);
        loose(8, 9, 20, 31);
        loose(8, 2, 20, 24);
        loose(8, 3, 20, 25);
        loose(7, 9, 20, 63);
        loose(7, 9, 2, 56);
        loose(7, 9, 3, 57);
    }

    private void whileDeep() {
        loose(7, 1, 0, 32);
        loose(7, 1, 1, 32);
        loose(7, 1, 20, 32);
        loose(7, 2, 1, 40);
        loose(7, 2, 2, 40);
        loose(7, 6, 20, 63);
        loose(7, 5, 20, 59);
        loose(9, 9, 7, 23);
        loose(9, 9, 8, 55);
        loose(9, 9, 9, 55);
        loose(9, 8, 20, 23);
        loose(3, 4, 20, 0);
        loose(3, 5, 20, 32);
    }

    private void doneOrNot() {
        SighGuild g = STREET.get();
        g.sigh(0, 0);
        e.due("done", g.loose(0, 1, 0), 1);
        e.due("done and not", g.loose(0, 2, 1), 3);
        SighGuild one = Check.guildOf("s00 o310o310o310o310o310o310");
        e.due("all in one house", one.loose(3, 1, 0), 63);
        e.due("none there", one.loose(4, 9, 20), 0);
        e.due("without ORDERS", new SighGuild().loose(0, 9, 20), 0);
    }

    private void looseBad() {
        e.limits("loose(place, 9, 20) without ORDERS", SighGuild::new, (g, place) -> g.loose(place, 9, 20), 0, 9, v -> 0);
        e.limits("loose(9, depth, 20) without ORDERS", SighGuild::new, (g, depth) -> g.loose(9, depth, 20), 1, 9, v -> 0);
        e.limits("loose(9, 9, n) without ORDERS", SighGuild::new, (g, n) -> g.loose(9, 9, n), 0, 20, v -> 0);
    }
}
