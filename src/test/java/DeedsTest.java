/** Promises 15 to 20. */
public final class DeedsTest {
    private static final Check c = new Check();

    public static void main(String[] args) {
        deeds();
        rests();
        full();
        bad();
        undo();
        keepAndOn();
        c.end("DeedsTest");
    }

    /** Twelve DEEDS by which all ORDERS are done. */
    private static SighGuild busy() {
        SighGuild g = Check.guildOf(SighersTest.FIVE);
        c.due("15 walk(0, 2)", g.walk(0, 2), 2);
        c.due("16 sigh(0, 0) brings 0", g.sigh(0, 0), 0);
        c.due("15 walk(0, 9)", g.walk(0, 9), 7);
        c.due("16 sigh(0, 2)", g.sigh(0, 2), 5);
        c.due("15 walk(0, 4) back", g.walk(0, 4), 5);
        c.refused(g, "16 sigh(0, 1)", Check.SPENT, () -> g.sigh(0, 1));
        c.due("17 rest(0)", g.rest(0), 4);
        c.due("16 sigh(0, 1)", g.sigh(0, 1), 6);
        c.refused(g, "16 sigh(4, 4)", Check.SPENT, () -> g.sigh(4, 4));
        c.due("17 rest(4)", g.rest(4), 3);
        c.due("16 sigh(4, 4) by a MASTER", g.sigh(4, 4), 12);
        c.due("16 sigh(1, 3) by a FORGER", g.sigh(1, 3), 13);
        c.due("15 walk(2, 5)", g.walk(2, 5), 5);
        c.due("16 sigh(2, 5) by a POET", g.sigh(2, 5), 20);
        return g;
    }

    private static void deeds() {
        SighGuild g = busy();
        int[] due = {5, 6, 12, 20, 63, 6};
        for (int what = 0; what < due.length; what++) {
            c.due("16 count(" + what + ")", g.count(what), due[what]);
        }
        c.refused(g, "16 sigh(2, 5) again", Check.STATE, () -> g.sigh(2, 5));
        c.refused(g, "15 walk(2, 5) again", Check.STATE, () -> g.walk(2, 5));
        SighGuild h = Check.guildOf(SighersTest.FIVE);
        c.refused(h, "16 sigh(0, 0) elsewhere", Check.STATE, () -> h.sigh(0, 0));
        c.refused(h, "16 sigh(3, 4) too deep", Check.STATE, () -> h.sigh(3, 4));
        c.refused(h, "16 sigh(2, 3) too deep for a POET", Check.STATE, () -> h.sigh(2, 3));
        c.refused(h, "16 sigh(4, 3)", Check.SPENT, () -> h.sigh(4, 3));
        c.refused(h, "15 walk(0, 0)", Check.STATE, () -> h.walk(0, 0));
        h.walk(4, 1);
        c.refused(h, "16 sigh(4, 3) elsewhere, too much", Check.STATE, () -> h.sigh(4, 3));
    }

    private static void rests() {
        SighGuild g = Check.guildOf("s80 s70 s90 o111");
        c.due("17 rest at 8", g.rest(0), 9);
        c.refused(g, "17 rest at 9", Check.STATE, () -> g.rest(0));
        c.due("17 rest at 7", g.rest(1), 9);
        c.refused(g, "17 rest at 9", Check.STATE, () -> g.rest(2));
        c.due("18 undo(0)", g.undo(0), 2);
        c.told(g, "18 BREATH", g.sigher(0, 1), 8);
        c.told(g, "18 BREATH", g.sigher(1, 1), 7);
    }

    private static void full() {
        SighGuild g = Check.guildOf("s30 s90 a90 o031 o041");
        for (int d = 0; d < 40; d++) {
            c.due("15 deed " + d, g.walk(0, d % 2 == 0 ? 3 : 0), 3);
        }
        c.refused(g, "15 walk(0, 1)", Check.FULL, () -> g.walk(0, 1));
        c.refused(g, "16 sigh(0, 0)", Check.FULL, () -> g.sigh(0, 0));
        c.refused(g, "17 rest(0)", Check.FULL, () -> g.rest(0));
        c.refused(g, "15 walk(0, 0): STATE ahead of FULL", Check.STATE, () -> g.walk(0, 0));
        c.refused(g, "16 sigh(0, 1): SPENT ahead of FULL", Check.SPENT, () -> g.sigh(0, 1));
        c.refused(g, "16 sigh(2, 1): STATE ahead of FULL", Check.STATE, () -> g.sigh(2, 1));
        c.refused(g, "17 rest(1): STATE ahead of FULL", Check.STATE, () -> g.rest(1));
        c.refused(g, "15 walk(0, 10): BAD first", Check.BAD, () -> g.walk(0, 10));
        c.due("18 undo(39)", g.undo(39), 1);
        c.due("17 rest(0) in the last place", g.rest(0), 5);
        c.refused(g, "17 rest(0)", Check.FULL, () -> g.rest(0));
        g.undo(38);
        c.due("17 rest(0)", g.rest(0), 5);
        c.due("16 sigh(0, 1) in the last place", g.sigh(0, 1), 1);
        g.undo(39);
        c.due("15 walk(0, 9) in the last place", g.walk(0, 9), 9);
    }

    private static void bad() {
        SighGuild none = new SighGuild();
        SighGuild g = Check.guildOf("s30 a90 o031 o041");
        c.refused(none, "15 walk(0, 1) without a guild", Check.BAD, () -> none.walk(0, 1));
        c.refused(none, "16 sigh(0, 0) without a guild", Check.BAD, () -> none.sigh(0, 0));
        c.refused(none, "17 rest(0) without a guild", Check.BAD, () -> none.rest(0));
        for (int w : new int[] {-1, 2, Integer.MAX_VALUE, Integer.MIN_VALUE}) {
            c.refused(g, "15 walk(" + w + ", 1)", Check.BAD, () -> g.walk(w, 1));
            c.refused(g, "16 sigh(" + w + ", 0)", Check.BAD, () -> g.sigh(w, 0));
            c.refused(g, "16 sigh(0, " + w + ")", Check.BAD, () -> g.sigh(0, w));
            c.refused(g, "17 rest(" + w + ")", Check.BAD, () -> g.rest(w));
        }
        for (int w : new int[] {-1, 10, Integer.MAX_VALUE, Integer.MIN_VALUE}) {
            c.refused(g, "15 walk(0, " + w + ")", Check.BAD, () -> g.walk(0, w));
        }
    }

    private static void undo() {
        SighGuild g = busy();
        c.due("18 undo(12)", g.undo(12), 0);
        for (int n : new int[] {-1, 13, 41, Integer.MAX_VALUE, Integer.MIN_VALUE}) {
            c.refused(g, "18 undo(" + n + ")", Check.BAD, () -> g.undo(n));
        }
        c.due("18 undo(10)", g.undo(10), 2);
        c.due("18 GOLD", g.count(3), 13);
        c.told(g, "18 the PLACE", g.sigher(2, 3), 0);
        c.told(g, "18 BREATH", g.sigher(2, 1), 7);
        c.told(g, "18 done", g.order(5, 3), 0);
        c.due("18 undo(5)", g.undo(5), 5);
        c.due("18 GOLD", g.count(3), 5);
        c.due("18 done", g.count(4), 5);
        c.due("18 DEEDS", g.count(2), 5);
        c.told(g, "18 the PLACE", g.sigher(0, 3), 4);
        c.told(g, "18 BREATH", g.sigher(0, 1), 2);
        c.told(g, "18 BREATH", g.sigher(4, 1), 1);
        c.due("18 undo(0)", g.undo(0), 5);
        c.due("18 as at first", g.digest(), Check.guildOf(SighersTest.FIVE).digest());
        c.due("18 undo(0) of none", g.undo(0), 0);
        c.due("18 undo(0) without a guild", new SighGuild().undo(0), 0);
        SighGuild none = new SighGuild();
        c.refused(none, "18 undo(1) without a guild", Check.BAD, () -> none.undo(1));
    }

    /** What was kept stays, whatever is done in its stead. */
    private static void otherDeeds() {
        SighGuild g = Check.guildOf(SighersTest.FIVE);
        g.walk(0, 5);
        g.sigh(0, 5);
        c.due("19 keep(1)", g.keep(1), 2);
        g.undo(0);
        g.rest(1);
        g.walk(3, 9);
        g.sigh(3, 2);
        c.due("19 keep(0)", g.keep(0), 3);
        c.due("20 on(1)", g.on(1), 2);
        c.due("20 GOLD", g.count(3), 8);
        c.due("20 done", g.count(4), 32);
        c.told(g, "20 the PLACE", g.sigher(0, 3), 5);
        c.told(g, "20 the PLACE", g.sigher(3, 3), 0);
        c.due("20 on(0)", g.on(0), 3);
        c.due("20 GOLD", g.count(3), 5);
        c.told(g, "20 BREATH", g.sigher(1, 1), 2);
        c.due("18 undo(1)", g.undo(1), 2);
        c.told(g, "18 BREATH", g.sigher(1, 1), 2);
        c.due("11 guild(0)", g.guild(0), 6);
        c.due("11 kept GUILDS go", g.count(10), 0);
    }

    private static void keepAndOn() {
        SighGuild none = new SighGuild();
        c.refused(none, "19 keep(0) without a guild", Check.STATE, () -> none.keep(0));
        c.refused(none, "19 keep(3) without a guild", Check.BAD, () -> none.keep(3));
        c.found(none, "20 on(0) without a guild", Check.NOTHING, () -> none.on(0));
        SighGuild g = busy();
        c.found(g, "20 on(0)", Check.NOTHING, () -> g.on(0));
        g.undo(5);
        long five = g.digest();
        c.due("19 keep(0)", g.keep(0), 5);
        c.due("19 count(10)", g.count(10), 1);
        c.due("19 it is told", g.digest() == five ? 1 : 0, 0);
        g.rest(0);
        c.due("19 keep(2)", g.keep(2), 6);
        c.due("19 count(10)", g.count(10), 2);
        String six = Check.stateOf(g);
        c.due("20 on(0)", g.on(0), 5);
        c.told(g, "20 BREATH", g.sigher(0, 1), 2);
        c.due("20 undo(0)", g.undo(0), 5);
        c.told(g, "20 BREATH", g.sigher(0, 1), 4);
        c.due("20 on(2)", g.on(2), 6);
        c.told(g, "20 BREATH", g.sigher(0, 1), 4);
        c.due("20 GOLD", g.count(3), 5);
        c.due("20 done", g.count(4), 5);
        g.undo(6);
        c.due("20 as it was kept", six.startsWith(g.digest() + " ") ? 1 : 0, 1);
        c.due("20 on(2) again", g.on(2), 6);
        c.due("20 its DEEDS can be undone", g.undo(3), 3);
        c.due("19 keep(2) over another", g.keep(2), 3);
        c.due("20 on(2)", g.on(2), 3);
        c.found(g, "20 on(1)", Check.NOTHING, () -> g.on(1));
        otherDeeds();
        for (int k : new int[] {-1, 3, Integer.MAX_VALUE, Integer.MIN_VALUE}) {
            c.refused(g, "19 keep(" + k + ")", Check.BAD, () -> g.keep(k));
            c.refused(g, "20 on(" + k + ")", Check.BAD, () -> g.on(k));
        }
    }
}
