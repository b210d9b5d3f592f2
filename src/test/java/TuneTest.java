/** Promises 29 to 31. */
public final class TuneTest {
    private static final Check c = new Check();

    public static void main(String[] args) {
        pairs();
        choir();
        loose();
        c.end("TuneTest");
    }

    private static void pairs(SighGuild g, int t, int want, int first) {
        c.due("29 pairs(" + t + ")", g.pairs(t), want);
        c.due("29 the first", g.asked(), first);
    }

    private static void pairs() {
        SighGuild g = Check.guildOf(SighersTest.FIVE);
        int[] due = {1, 3, 3, 4, 6, 7, 7, 9, 10, 10};
        for (int t = 0; t <= 9; t++) {
            pairs(g, t, due[t], t == 0 ? 7 : 1);
        }
        pairs(Check.guildOf("s05o111"), 9, 0, Check.NONE);
        SighGuild h = Check.guildOf("s01s05s09s04s09o111");
        pairs(h, 0, 1, 14);
        pairs(h, 1, 2, 8);
        pairs(h, 3, 3, 3);
        pairs(Check.guildOf("s01s05s09o111"), 3, 0, Check.NONE);
        pairs(new SighGuild(), 0, 0, Check.NONE);
        SighGuild none = new SighGuild();
        for (int t : new int[] {-1, 10, Integer.MAX_VALUE, Integer.MIN_VALUE}) {
            c.refused(g, "29 pairs(" + t + ")", Check.BAD, () -> g.pairs(t));
            c.refused(g, "30 choir(" + t + ")", Check.BAD, () -> g.choir(t));
            c.refused(none, "30 choir(" + t + ") without a guild", Check.BAD, () -> none.choir(t));
        }
        c.refused(none, "30 choir(0) without a guild", Check.STATE, () -> none.choir(0));
    }

    private static void choir(SighGuild g, int t, int want, int set) {
        c.due("30 choir(" + t + ")", g.choir(t), want);
        c.due("30 which", g.asked(), set);
    }

    private static void choir() {
        SighGuild g = Check.guildOf(SighersTest.FIVE);
        choir(g, 0, 2, 6);
        choir(g, 1, 3, 7);
        choir(g, 4, 3, 7);
        choir(g, 5, 4, 15);
        choir(g, 7, 4, 15);
        choir(g, 8, 5, 31);
        choir(g, 9, 5, 31);
        choir(Check.guildOf("s05o111"), 0, 1, 1);
        choir(Check.guildOf("s01s05s09o111"), 3, 1, 1);
        choir(Check.guildOf("s01s05s09s09s09o111"), 4, 4, 30);
        choir(Check.guildOf("s00s09s03s06o111"), 3, 2, 5);
        choir(Check.guildOf("s00s09s03s06o111"), 6, 3, 13);
    }

    private static void loose(SighGuild g, int place, int depth, int n, int want) {
        c.due("31 loose(" + place + ", " + depth + ", " + n + ")", g.loose(place, depth, n), want);
    }

    private static void loose() {
        SighGuild g = Check.guildOf(SighersTest.FIVE);
        g.sigh(1, 3);
        loose(g, 2, 1, 20, 1);
        loose(g, 2, 9, 0, 1);
        loose(g, 2, 9, 1, 1);
        loose(g, 2, 9, 2, 3);
        loose(g, 2, 2, 20, 1);
        loose(g, 2, 3, 20, 3);
        loose(g, 9, 2, 1, 28);
        loose(g, 9, 1, 1, 4);
        loose(g, 9, 9, 20, 63);
        loose(g, 6, 9, 20, 31);
        loose(g, 6, 9, 7, 29);
        loose(g, 1, 1, 0, 0);
        loose(new SighGuild(), 0, 9, 20, 0);
        for (int w : new int[] {-1, 10, Integer.MAX_VALUE, Integer.MIN_VALUE}) {
            c.refused(g, "31 loose(" + w + ", 1, 0)", Check.BAD, () -> g.loose(w, 1, 0));
            c.refused(g, "31 loose(0, " + w + ", 0)", Check.BAD, () -> g.loose(0, w, 0));
        }
        c.refused(g, "31 loose(0, 0, 0)", Check.BAD, () -> g.loose(0, 0, 0));
        for (int n : new int[] {-1, 21, Integer.MAX_VALUE, Integer.MIN_VALUE}) {
            c.refused(g, "31 loose(0, 1, " + n + ")", Check.BAD, () -> g.loose(0, 1, n));
        }
    }
}
