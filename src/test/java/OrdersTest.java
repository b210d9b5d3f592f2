/** Promises 23 to 25. */
public final class OrdersTest {
    private static final Check c = new Check();

    public static void main(String[] args) {
        five();
        few();
        ties();
        refusals();
        c.end("OrdersTest");
    }

    private static void five() {
        SighGuild g = Check.guildOf(SighersTest.FIVE);
        g.row(1, 40);
        g.lay(1, 0, 5);
        c.due("23 give(1)", g.give(1), 19);
        c.ints(g, 1, -9, -9, 4, 0, 1, 2);
        c.due("24 most(1)", g.most(1), 6);
        c.ints(g, 1, 0, 0, 1, 1, 1, 1);
        c.due("25 plain()", g.plain(), 6);
        c.due("25 GOLD", g.asked(), 10);
        c.due("23 aside", g.count(2) + g.count(3) + g.count(4), 0);
        g.sigh(1, 3);
        c.due("23 give(5)", g.give(5), 18);
        c.ints(g, 5, -9, -9, 4, -9, 0, 2);
        c.due("24 most(5)", g.most(5), 5);
        c.ints(g, 5, 0, 0, 1, -9, 1, 1);
        c.due("25 plain()", g.plain(), 5);
        c.due("25 GOLD", g.asked(), 9);
        c.due("25 aside", g.count(3), 1);
    }

    private static void few() {
        SighGuild g = Check.guildOf("a30 s20 o053 o033 o124");
        c.due("23 give(0)", g.give(0), 7);
        c.ints(g, 0, -9, 0, 1);
        c.due("24 most(0)", g.most(0), 2);
        c.ints(g, 0, -9, 0, 1);
        c.due("25 plain()", g.plain(), 2);
        c.due("25 GOLD", g.asked(), 7);
        SighGuild h = Check.guildOf("s00 o059");
        c.due("23 give(0) of none", h.give(0), 0);
        c.ints(h, 0, -9);
        c.due("24 most(0) of none", h.most(0), 0);
        c.ints(h, 0, -9);
        c.due("25 plain() of none", h.plain(), 0);
        c.due("25 GOLD of none", h.asked(), 0);
        SighGuild i = Check.guildOf("s50 o035 o023 o033");
        c.due("25 plain()", i.plain(), 2);
        c.due("25 GOLD", i.asked(), 8);
        c.due("25 plain() is no DEED", i.count(5), 5);
        SighGuild k = Check.guildOf("s40 o031 o029 o029");
        c.due("25 plain() is plain", k.plain(), 1);
        c.due("25 GOLD", k.asked(), 1);
        c.due("23 give(0) is not", k.give(0), 18);
        c.ints(k, 0, -9, 0, 0);
    }

    private static void ties() {
        SighGuild g = Check.guildOf("s20 s20 o022 o022 o022");
        c.due("23 give(0)", g.give(0), 4);
        c.ints(g, 0, -9, 0, 1);
        c.due("24 most(0)", g.most(0), 2);
        c.ints(g, 0, -9, 0, 1);
        SighGuild h = Check.guildOf("s90 o010 o011 o010");
        c.due("23 what brings 0 is given to none", h.give(0), 1);
        c.ints(h, 0, -9, 0, -9);
        c.due("24 most(0)", h.most(0), 3);
        c.ints(h, 0, 0, 0, 0);
        SighGuild back = Check.guildOf("s20 o025 o013 o023");
        c.due("23 one of three", back.give(0), 5);
        c.ints(back, 0, 0, -9, -9);
        SighGuild second = Check.guildOf("s00 m90 o019");
        c.due("23 by the second alone", second.give(0), 11);
        c.ints(second, 0, 1);
        c.due("24 by the second alone", second.most(0), 1);
        c.ints(second, 0, 1);
        SighGuild i = Check.guildOf("s90s90s90s90s90 o019o019o019o019o019o019");
        c.due("23 all have all", i.give(2), 54);
        c.ints(i, 2, 0, 0, 0, 0, 0, 0);
        c.due("24 all have all", i.most(2), 6);
        c.ints(i, 2, 0, 0, 0, 0, 0, 0);
    }

    private static void refusals() {
        SighGuild none = new SighGuild();
        SighGuild g = Check.guildOf(SighersTest.FIVE);
        c.refused(none, "23 give(0) without a guild", Check.STATE, () -> none.give(0));
        c.refused(none, "24 most(0) without a guild", Check.STATE, () -> none.most(0));
        c.refused(none, "25 plain() without a guild", Check.STATE, none::plain);
        for (int r : new int[] {-1, 6, Integer.MAX_VALUE, Integer.MIN_VALUE}) {
            c.refused(none, "23 give(" + r + ") without a guild", Check.BAD, () -> none.give(r));
            c.refused(none, "24 most(" + r + ") without a guild", Check.BAD, () -> none.most(r));
            c.refused(g, "23 give(" + r + ")", Check.BAD, () -> g.give(r));
            c.refused(g, "24 most(" + r + ")", Check.BAD, () -> g.most(r));
        }
        g.pairs(0);
        c.due("23 give() leaves asked()", g.give(0) + g.most(1), 25);
        c.due("23 asked()", g.asked(), 7);
    }
}
