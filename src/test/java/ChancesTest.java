import java.util.List;
import java.util.function.Supplier;

/** Promises 35 to 38, 40, 41. */
public final class ChancesTest {
    private static final Check c = new Check();
    private static final int[] WRONG_TWELFTHS = {-1, 13, Integer.MAX_VALUE, Integer.MIN_VALUE};

    public static void main(String[] args) {
        strike();
        chances();
        hanging();
        refusals();
        lots();
        lotsByHand();
        c.end("ChancesTest");
    }

    private static void strike() {
        SighGuild g = Check.guildOf(SighersTest.FIVE);
        c.due("35 strike(0)", g.strike(0), 0);
        c.due("35 strike(1)", g.strike(1), 8);
        c.due("35 strike(2)", g.strike(2), 14);
        c.due("35 aside", g.count(2) + g.count(3) + g.count(4), 0);
        c.due("35 aside", g.count(5), 15);
        g.sigh(1, 3);
        c.due("35 GOLD more than now", g.strike(1), 8);
        SighGuild alone = Check.guildOf("s90 o019 o018");
        c.due("35 a SIGHER alone is struck", alone.strike(2), 9);
        SighGuild second = Check.guildOf("s00 s90 o019 o028");
        c.due("35 whichever it is", second.strike(2), 9);
        SighGuild forger = Check.guildOf("f90 o019 o018");
        c.due("35 a FORGER needs none", forger.strike(2), 8);
        SighGuild two = Check.guildOf("s90 s20 o019 o028 o037");
        c.due("35 the better one is struck", two.strike(2), 17);
        SighGuild weak = Check.guildOf("s10 o029");
        c.due("35 nobody CAN", weak.strike(2), 0);
    }

    private static void chances() {
        SighGuild g = Check.guildOf("f00 o014 o013");
        c.chance(g, "36 odds(0, 4)", g.odds(0, 4), 1, 1);
        c.chance(g, "36 odds(1, 4)", g.odds(1, 4), 8, 9);
        c.chance(g, "36 odds(2, 4)", g.odds(2, 4), 2, 3);
        c.chance(g, "36 odds(3, 4)", g.odds(3, 4), 4, 9);
        c.chance(g, "36 odds(4, 4)", g.odds(4, 4), 0, 1);
        c.chance(g, "36 odds(66, 0)", g.odds(66, 0), 0, 1);
        c.chance(g, "36 odds(3, 0)", g.odds(3, 0), 1, 1);
        c.chance(g, "36 odds(1, 12)", g.odds(1, 12), 0, 1);
        c.chance(g, "36 odds(0, 12)", g.odds(0, 12), 1, 1);
        c.chance(g, "36 odds(3, 5)", g.odds(3, 5), 49, 144);
        c.chance(g, "37 mid(4)", g.mid(4), 2, 1);
        c.chance(g, "37 mid(1)", g.mid(1), 11, 4);
        c.chance(g, "37 mid(0)", g.mid(0), 3, 1);
        c.chance(g, "37 mid(12)", g.mid(12), 0, 1);
        g.sigh(0, 0);
        c.chance(g, "36 odds(1, 4) of one", g.odds(1, 4), 2, 3);
        c.chance(g, "36 odds(2, 4) of one", g.odds(2, 4), 0, 1);
        c.chance(g, "37 mid(4) of one", g.mid(4), 2, 3);
        g.sigh(0, 1);
        c.chance(g, "36 odds(0, 5) of none", g.odds(0, 5), 1, 1);
        c.chance(g, "36 odds(1, 5) of none", g.odds(1, 5), 0, 1);
        c.chance(g, "37 mid(5) of none", g.mid(5), 0, 1);
        c.due("36 asked() is not theirs", g.asked(), 0);
    }

    /** What one ORDER leaves undone hangs on the one ahead of it. */
    private static void hanging() {
        SighGuild g = Check.guildOf("s30 o031 o035");
        c.chance(g, "36 odds(1, 3)", g.odds(1, 3), 15, 16);
        c.chance(g, "36 odds(2, 3)", g.odds(2, 3), 3, 16);
        c.chance(g, "37 mid(3)", g.mid(3), 27, 16);
        SighGuild most = Check.guildOf("m90 o019o019o019o019o019o019");
        c.chance(most, "36 odds(66, 0)", most.odds(66, 0), 1, 1);
        c.chance(most, "36 odds(66, 1)", most.odds(66, 1), 1771561, 2985984);
        c.chance(most, "36 odds(56, 1)", most.odds(56, 1), 1771561, 2985984);
        c.chance(most, "36 odds(55, 1)", most.odds(55, 1), 1771561 + 6 * 161051, 2985984);
        c.chance(most, "37 mid(6)", most.mid(6), 33, 1);
        c.chance(most, "37 mid(7)", most.mid(7), 55, 2);
    }

    private static void refusals() {
        SighGuild none = new SighGuild();
        Supplier<SighGuild> told = Edge.of("f00 o014 o013", g -> g.odds(1, 4));
        c.refused(none, "35 strike(0) without a guild", Check.STATE, () -> none.strike(0));
        c.refused(none, "36 odds(0, 0) without a guild", Check.STATE, () -> none.odds(0, 0));
        c.refused(none, "37 mid(0) without a guild", Check.STATE, () -> none.mid(0));
        c.refused(none, "38 lots(1, 1) without a guild", Check.STATE, () -> none.lots(1, 1));
        List<Supplier<SighGuild>> both = List.of(SighGuild::new, told);
        for (Supplier<SighGuild> x : both) {
            for (int n : new int[] {-1, 3, Integer.MAX_VALUE, Integer.MIN_VALUE}) {
                c.refused(x, "35 strike(" + n + ")", Check.BAD, g -> g.strike(n));
            }
            for (int p : WRONG_TWELFTHS) {
                c.refused(x, "36 odds(0, " + p + ")", Check.BAD, g -> g.odds(0, p));
                c.refused(x, "37 mid(" + p + ")", Check.BAD, g -> g.mid(p));
            }
            for (int v : new int[] {-1, 67, Integer.MAX_VALUE, Integer.MIN_VALUE}) {
                c.refused(x, "36 odds(" + v + ", 1)", Check.BAD, g -> g.odds(v, 1));
            }
            for (int n : new int[] {-1, 0, 21, Integer.MAX_VALUE, Integer.MIN_VALUE}) {
                c.refused(x, "38 lots(" + n + ", 1)", Check.BAD, g -> g.lots(n, 1));
            }
            for (int seed : new int[] {-1, 0, Integer.MAX_VALUE, Integer.MIN_VALUE}) {
                c.refused(x, "38 lots(1, " + seed + ")", Check.BAD, g -> g.lots(1, seed));
            }
        }
    }

    /** The first number from a seed. */
    private static long lotOf(int seed) {
        return seed * 48271L % 2147483647L;
    }

    /** A seed whose first number rests, or does not. */
    private static int seed(boolean rests) {
        int seed = 1;
        while ((lotOf(seed) / 8 % 4 == 0) != rests) {
            seed++;
        }
        return seed;
    }

    private static void lots() {
        SighGuild g = Check.guildOf("s85 o013");
        c.due("38 a SIGH", g.lots(1, seed(false)), 3);
        c.due("38 DEEDS", g.count(2), 1);
        c.told(g, "38 BREATH", g.sigher(0, 1), 7);
        c.due("38 a walk where it is", g.lots(1, seed(false)), 3);
        c.due("38 DEEDS", g.count(2), 2);
        c.due("38 rests", g.lots(1, seed(true)) + g.lots(1, seed(true)), 6);
        c.told(g, "38 BREATH", g.sigher(0, 1), 9);
        c.due("38 DEEDS", g.count(2), 4);
        c.due("38 undone", g.undo(1), 3);
        c.told(g, "38 BREATH", g.sigher(0, 1), 7);
        c.due("38 lots(20, 2147483646)", g.lots(20, 2147483646), 3);
        c.due("38 lots(19, 1)", g.lots(19, 1), 3);
        c.due("38 DEEDS", g.count(2), 40);
        c.refused(g, "38 lots(1, 1)", Check.FULL, () -> g.lots(1, 1));
        g.undo(39);
        c.refused(g, "38 lots(2, 1)", Check.FULL, () -> g.lots(2, 1));
        c.refused(g, "38 lots(0, 1)", Check.BAD, () -> g.lots(0, 1));
        c.due("38 lots(1, 1) in the last place", g.lots(1, 1), 3);
        SighGuild h = Check.guildOf("s15 a95 o723");
        for (int k = 0; k < 20; k++) {
            h.lots(1, seed(false));
        }
        c.told(h, "38 it walks to the house", h.sigher((int) (lotOf(seed(false)) % 2), 3), 7);
    }

    /** The same DEEDS by the document's words, one by one; those that no other call does are left out. */
    private static void lotsByHand() {
        for (int seed = 1; seed < 400; seed += 7) {
            SighGuild g = Check.guildOf(SighersTest.FIVE);
            SighGuild h = Check.guildOf(SighersTest.FIVE);
            c.due("38 lots(20, " + seed + ")", g.lots(20, seed), byHand(h, 20, seed));
            for (int what = 3; what <= 5; what++) {
                c.due("38 count(" + what + ")", g.count(what), h.count(what));
            }
            for (int i = 0; i < 5; i++) {
                g.sigher(i, 3);
                h.sigher(i, 3);
                c.due("38 the PLACE of " + i, g.asked(), h.asked());
            }
            c.due("38 DEEDS", g.count(2), 20);
        }
    }

    private static int byHand(SighGuild g, int n, int seed) {
        long x = seed;
        for (int k = 0; k < n; k++) {
            x = x * 48271L % 2147483647L;
            int i = (int) (x % 5);
            int o = (int) (x / 64 % 6);
            if (x / 8 % 4 == 0) {
                g.rest(i);
            } else if (g.sigh(i, o) < 0) {
                g.order(o, 0);
                g.walk(i, g.asked());
            }
        }
        return g.count(3);
    }
}
