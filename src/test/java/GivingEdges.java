import java.util.Arrays;
import java.util.function.Supplier;

/** The boundary cases of promises 23 to 25. */
final class GivingEdges {
    private static final int NONE = Check.NONE;
    private static final Supplier<SighGuild> MOST = Edge.of("m90m90m90m90m90o019o019o019o019o019o019");
    private final Edge e;

    private GivingEdges(Edge e) {
        this.e = e;
    }

    static void all(Edge e) {
        GivingEdges t = new GivingEdges(e);
        e.says(23, "The most GOLD by ORDERS that are not done, each given to a SIGHER or none", t::giveMostGold);
        e.says(23, "each doing all that it is given by the BREATH that it has (in any order)", t::giveByBreath);
        e.says(23, "the first such row (NONE for none ahead of SIGHER 0, 1, ..; ORDER by ORDER; "
                + "NONE for those that are done)", t::giveFirstRow);
        e.says(23, "comes to a ROW (anew; one place for each ORDER)", t::giveRowAnew);
        e.says(23, "BAD; STATE: no SIGHERS.", t::giveRefused);
        e.says(24, "Likewise the most ORDERS.", t::mostOrders);
        e.says(24, "BAD; STATE.", t::mostRefused);
        e.says(25, "How many ORDERS are done, if each that is not done, by numbers, is done by the first SIGHER "
                + "who CAN then; GOLD so had by asked().", t::plain);
        e.says(25, "STATE: no SIGHERS.", t::plainRefused);
        e.says(Edge.TERMS, "orders to sighers (aside; wherever they are)", t::aside);
    }

    private void give(String text, int want, int... row) {
        give(Check.guildOf(text), text, want, row);
    }

    private void give(SighGuild g, String text, int want, int... row) {
        e.due("give(4) of " + text, g.give(4), want);
        e.ints(g, 4, row);
    }

    private void most(String text, int want, int... row) {
        SighGuild g = Check.guildOf(text);
        e.due("most(4) of " + text, g.most(4), want);
        e.ints(g, 4, row);
    }

    private void giveMostGold() {
        give(MOST.get(), "all", 66, 0, 0, 0, 0, 0, 0);
        give("s00 o019", 0, NONE);
        give("s10 o019", 9, 0);
        give("a90 o049", 0, NONE);
        give("a90 o039", 9, 0);
        give("p90 o079", 0, NONE);
        give("p60 o069", 8, 0);
        give("p90 o011", 0, NONE);
        give("f00 o099o099o099o099o099o099", 24, 0, 0, 0, 0, 0, 0);
        give("f00 m20 o035 o055", 9, 0, 1);
        SighGuild done = Edge.of("f00 m90 o012 o014", g -> g.sigh(0, 0), g -> g.sigh(0, 1)).get();
        give(done, "all done", 0, NONE, NONE);
        SighGuild half = Edge.of("f00 m90 o012 o014", g -> g.sigh(0, 0)).get();
        give(half, "one done", 6, NONE, 1);
    }

    private void giveByBreath() {
        give("s50 o023 o034", 7, 0, 0);
        give("s40 o023 o034", 4, NONE, 0);
        give("s50 o034 o023", 7, 0, 0);
        give("s20 o034 o023", 3, NONE, 0);
        give("s10 o034 o023", 0, NONE, NONE);
        give("d20 o011 o011 o011", 2, NONE, 0, 0);
        give("d30 o011 o031 o021", 3, 0, 0, 0);
        give("s90 o019o019o019o019o019o049", 54, 0, 0, 0, 0, 0, 0);
        give("s80 o019o019o019o019o019o048", 45, 0, 0, 0, 0, 0, NONE);
        SighGuild rested = Edge.of("s40 o023 o034", g -> g.rest(0)).get();
        give(rested, "rested", 7, 0, 0);
        SighGuild spent = Edge.of("s50 o023 o034 o010", g -> g.sigh(0, 2)).get();
        give(spent, "spent", 4, NONE, 0, NONE);
    }

    private void giveFirstRow() {
        give("s90 o010", 0, NONE);
        give("s90 o010 o011 o010", 1, NONE, 0, NONE);
        give("s20 o012 o012 o012", 4, NONE, 0, 0);
        give("s20 o025 o024 o024", 5, 0, NONE, NONE);
        give("s20 s20 o025 o024 o024 o023", 9, 0, NONE, 1, NONE);
        give("s10 s10 o012 o012", 4, 0, 1);
        give("s10 s10 o012 o012 o012", 4, NONE, 0, 1);
        give("s10 s20 o012 o022", 4, 0, 1);
        give("s20 s10 o012 o022", 4, 1, 0);
        give("s10s10s10s10s10 o011o011o011o011o011o011", 5, NONE, 0, 1, 2, 3, 4);
        give("s00s00s00s00s10 o011", 1, 4);
        give("f00 s00 p20 o013 o019", 10, 2, 2);
        give("f00 s00 p10 o013 o019", 9, 0, 2);
        SighGuild g = Edge.of("s90 s90 o012 o012 o012", x -> x.sigh(1, 1)).get();
        give(g, "done in the midst", 4, 0, NONE, 0);
    }

    private void giveRowAnew() {
        for (int orders = 1; orders <= 6; orders++) {
            int[] row = new int[orders];
            for (int size : new int[] {0, 1, 5, 6, 7, 40}) {
                int[] sevens = new int[size];
                Arrays.fill(sevens, 7);
                SighGuild g = Check.guildOf("s90" + "o011".repeat(orders));
                Check.lay(g, 4, sevens);
                give(g, orders + " ORDERS into " + size, orders, row);
            }
            SighGuild g = Check.guildOf("s90" + "o011".repeat(orders));
            give(g, orders + " ORDERS into a missing one", orders, row);
            e.due("count(8)", g.count(8), 1);
        }
    }

    private void giveRefused() {
        e.limits("give(r)", MOST, SighGuild::give, 0, 5, r -> 66);
        e.limits("BAD ahead of STATE: give(r)", SighGuild::new, SighGuild::give, 0, 5, r -> Check.STATE);
        Supplier<SighGuild> rows = Edge.anew(g -> Check.lay(g, 0, 1, 2), g -> g.row(5, 40));
        for (int r = 0; r < 6; r++) {
            int row = r;
            e.refused("give(" + r + ")", rows, Check.STATE, g -> g.give(row));
        }
    }

    private void mostOrders() {
        SighGuild all = MOST.get();
        e.due("most(4) of all", all.most(4), 6);
        e.ints(all, 4, 0, 0, 0, 0, 0, 0);
        most("s00 o019", 0, NONE);
        most("s10 o010", 1, 0);
        most("s50 o020 o030", 2, 0, 0);
        most("s40 o020 o030", 1, NONE, 0);
        most("s20 o020 o030", 1, 0, NONE);
        most("s30 o039 o010 o010", 2, NONE, 0, 0);
        most("a90 o049 o039", 1, NONE, 0);
        most("f00 o099o090o099o090o099o090", 6, 0, 0, 0, 0, 0, 0);
        most("s10 s10 o012 o012 o012", 2, NONE, 0, 1);
        SighGuild done = Edge.of("f00 m90 o012 o014", g -> g.sigh(0, 0), g -> g.sigh(0, 1)).get();
        e.due("most(0), all done", done.most(0), 0);
        e.ints(done, 0, NONE, NONE);
        SighGuild one = Edge.of("f00 m90 o012 o014", g -> g.sigh(0, 1)).get();
        one.row(0, 40);
        e.due("most(0), one done", one.most(0), 1);
        e.ints(one, 0, 0, NONE);
    }

    private void mostRefused() {
        e.limits("most(r)", MOST, SighGuild::most, 0, 5, r -> 6);
        e.limits("BAD ahead of STATE: most(r)", SighGuild::new, SighGuild::most, 0, 5, r -> Check.STATE);
        Supplier<SighGuild> rows = Edge.anew(g -> Check.lay(g, 0, 1, 2), g -> g.row(5, 40));
        for (int r = 0; r < 6; r++) {
            int row = r;
            e.refused("most(" + r + ")", rows, Check.STATE, g -> g.most(row));
        }
    }

    private void plain(SighGuild g, String text, int orders, int gold) {
        e.due("plain() of " + text, g.plain(), orders);
        e.due("GOLD of " + text, g.asked(), gold);
    }

    private void plain(String text, int orders, int gold) {
        plain(Check.guildOf(text), text, orders, gold);
    }

    private void plain() {
        plain(MOST.get(), "all", 6, 66);
        plain("s00 o019", 0, 0);
        plain("s10 o010", 1, 0);
        plain("s50 o023 o034", 2, 7);
        plain("s40 o023 o034", 1, 3);
        plain("s30 o023 o034", 1, 3);
        plain("s30 o034 o023", 1, 4);
        plain("s10 o023 o014", 1, 4);
        plain("a90 s90 o049 o019", 2, 18);
        plain("s00 m10 o019 o019", 1, 11);
        plain("f00 m90 o019 o018", 2, 8);
        plain("s20 m90 o019 o019 o019", 3, 29);
        plain(Edge.of("f00 m90 o018 o014", g -> g.sigh(0, 0), g -> g.sigh(0, 1)).get(), "all done", 0, 0);
        plain(Edge.of("f00 m90 o018 o014", g -> g.sigh(1, 0)).get(), "one done", 1, 2);
    }

    private void plainRefused() {
        e.refused("plain() of a new object", SighGuild::new, Check.STATE, SighGuild::plain);
        e.refused("plain() behind a FAULT", Edge.anew(g -> g.text(0, 3), g -> g.guild(0), g -> g.row(0, 1),
                g -> g.lay(0, 0, 5), g -> g.at(0, 0)), Check.STATE, SighGuild::plain);
    }

    private void aside() {
        Supplier<SighGuild> far = Edge.of("s40 d90 o923 o934", g -> g.walk(1, 4), g -> g.rest(0), g -> g.keep(1));
        SighGuild g = far.get();
        SighGuild twin = far.get();
        give(g, "elsewhere", 7, 0, 0);
        e.due("most(4)", g.most(4), 2);
        e.due("plain()", g.plain(), 2);
        e.due("takes(0, 1)", g.takes(0, 1), 3);
        e.due("brings(0, 1)", g.brings(0, 1), 4);
        g.tear(4);
        e.due("as it was", g.digest(), twin.digest());
        e.due("its DEEDS as they were", g.undo(1), 1);
        twin.undo(1);
        e.due("as it was", g.digest(), twin.digest());
    }
}
