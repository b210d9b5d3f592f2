import java.util.function.Supplier;

/** Promises 12 to 14, 21, 22. */
public final class SighersTest {
    private static final Check c = new Check();
    static final String FIVE = "d41 f02 p72 a36 m19 o210 o471 o935 o093 o064 o558";
    private static final int[][] TAKES = {
        {1, 3, 1, 4, 3, 2}, {0, 0, 0, 0, 0, 0}, {1, -9, 3, -9, 6, 5}, {1, -9, 3, -9, -9, -9}, {1, 3, 1, 4, 3, 2},
    };
    private static final int[][] BRINGS = {
        {0, 1, 5, 3, 4, 8}, {0, 0, 2, 1, 2, 4}, {0, 0, 4, 2, 3, 7}, {0, 1, 5, 3, 4, 8}, {2, 3, 7, 5, 6, 10},
    };

    public static void main(String[] args) {
        tables();
        sigherAndOrder();
        afterDeeds();
        mark();
        allDepths();
        refusals();
        c.end("SighersTest");
    }

    private static void tables() {
        SighGuild g = Check.guildOf(FIVE);
        g.sigh(1, 3);
        for (int i = 0; i < 5; i++) {
            for (int o = 0; o < 6; o++) {
                c.due("21 takes(" + i + ", " + o + ")", g.takes(i, o), TAKES[i][o]);
                c.due("22 brings(" + i + ", " + o + ")", g.brings(i, o), BRINGS[i][o]);
            }
        }
    }

    private static void sigherAndOrder() {
        SighGuild g = Check.guildOf(FIVE);
        int[][] sighers = {{1, 4, 1, 0, 63}, {3, 0, 2, 0, 63}, {5, 7, 2, 0, 53}, {2, 3, 6, 0, 5}, {4, 1, 9, 0, 5}};
        int[][] orders = {{2, 1, 0, 0, 31}, {4, 7, 1, 0, 3}, {9, 3, 5, 0, 31}, {0, 9, 3, 0, 3}, {0, 6, 4, 0, 7},
            {5, 5, 8, 0, 7}};
        for (int what = 0; what < 5; what++) {
            for (int i = 0; i < 5; i++) {
                c.told(g, "12 sigher(" + i + ", " + what + ")", g.sigher(i, what), sighers[i][what]);
            }
            for (int o = 0; o < 6; o++) {
                c.told(g, "13 order(" + o + ", " + what + ")", g.order(o, what), orders[o][what]);
            }
        }
    }

    private static void afterDeeds() {
        SighGuild g = Check.guildOf(FIVE);
        g.walk(0, 9);
        g.sigh(0, 2);
        g.rest(4);
        c.told(g, "12 BREATH behind a SIGH", g.sigher(0, 1), 3);
        c.told(g, "12 the PLACE behind a walk", g.sigher(0, 3), 9);
        c.told(g, "12 ORDERS it CAN do then", g.sigher(0, 4), 0b110011);
        c.told(g, "12 BREATH behind a rest", g.sigher(4, 1), 3);
        c.told(g, "12 ORDERS it CAN do then", g.sigher(4, 4), 0b110011);
        c.told(g, "12 not the one that is done", g.sigher(3, 4), 1);
        c.told(g, "13 done", g.order(2, 3), 1);
        c.told(g, "13 nobody CAN do it again", g.order(2, 4), 0);
        c.told(g, "13 not done", g.order(1, 3), 0);
        c.told(g, "13 who CAN then", g.order(1, 4), 0b10011);
        c.told(g, "13 who CAN then", g.order(3, 4), 0b00010);
    }

    private static void mark() {
        SighGuild g = Check.guildOf(FIVE);
        int u = Check.FINDING;
        int[][] marks = {{17, u, u, u, u}, {u, u, 12, u, u}, {u, 2, u, u, 2}, {u, 4, u, u, u}, {17, u, u, 6, u}};
        for (int i = 0; i < 5; i++) {
            for (int kind = 1; kind <= 5; kind++) {
                int who = i;
                int as = kind;
                String call = "14 mark(" + i + ", " + kind + ")";
                if (marks[i][kind - 1] == u) {
                    c.found(g, call, Check.UNLIKE, () -> g.mark(who, as));
                } else {
                    c.due(call, g.mark(i, kind), marks[i][kind - 1]);
                }
            }
        }
        g.sigh(1, 3);
        g.sigh(1, 4);
        c.due("14 a MASTER tells what is not done", g.mark(4, 4), 4);
        c.due("14 a DEEP one tells of all", g.mark(0, 1), 17);
        c.due("14 a FORGER tells of all", g.mark(1, 3), 12);
        c.due("14 an APPRENTICE tells of all", g.mark(3, 2), 4);
        c.due("14 a POET tells of all", g.mark(2, 5), 2);
        c.due("14 asked()", g.asked(), 0);
    }

    /** Every KIND, every DEPTH and every sum that an ORDER can name. */
    private static void allDepths() {
        String letters = "sdafmp";
        for (int kind = 0; kind < 6; kind++) {
            for (int n = 1; n <= 9; n++) {
                SighGuild g = Check.guildOf(letters.charAt(kind) + "90o0" + n + n + "o010");
                int half = n == 1 ? 1 : n / 2;
                int[] takes = {n, half, n > 3 ? -9 : n, 0, half, n > 6 ? -9 : n};
                int[] brings = {n, n, n, n / 2, n + 2, n - 1};
                int[] least = {0, 0, 0, 0, 2, 0};
                c.due("21 kind " + kind + " takes " + n, g.takes(0, 0), takes[kind]);
                c.due("22 kind " + kind + " brings " + n, g.brings(0, 0), brings[kind]);
                c.due("22 kind " + kind + " brings of 0", g.brings(0, 1), least[kind]);
                c.told(g, "12 the KIND", g.sigher(0, 0), kind);
                c.told(g, "12 CAN", g.sigher(0, 4), takes[kind] < 0 ? 2 : 3);
            }
        }
    }

    private static void refusals() {
        SighGuild none = new SighGuild();
        Supplier<SighGuild> two = Edge.of("d41 f02 o210 o471 o935");
        c.refused(none, "21 takes(0, 0) without a guild", Check.BAD, () -> none.takes(0, 0));
        c.refused(none, "22 brings(0, 0) without a guild", Check.BAD, () -> none.brings(0, 0));
        c.refused(none, "14 mark(0, 1) without a guild", Check.BAD, () -> none.mark(0, 1));
        for (int i : new int[] {-1, 2, 5, Integer.MAX_VALUE, Integer.MIN_VALUE}) {
            c.refused(two, "12 sigher(" + i + ", 0)", Check.BAD, g -> g.sigher(i, 0));
            c.refused(two, "14 mark(" + i + ", 1)", Check.BAD, g -> g.mark(i, 1));
            c.refused(two, "21 takes(" + i + ", 0)", Check.BAD, g -> g.takes(i, 0));
            c.refused(two, "22 brings(" + i + ", 0)", Check.BAD, g -> g.brings(i, 0));
        }
        for (int o : new int[] {-1, 3, 6, Integer.MAX_VALUE, Integer.MIN_VALUE}) {
            c.refused(two, "13 order(" + o + ", 0)", Check.BAD, g -> g.order(o, 0));
            c.refused(two, "21 takes(0, " + o + ")", Check.BAD, g -> g.takes(0, o));
            c.refused(two, "22 brings(0, " + o + ")", Check.BAD, g -> g.brings(0, o));
        }
        for (int what : new int[] {-1, 5, Integer.MAX_VALUE, Integer.MIN_VALUE}) {
            c.refused(two, "12 sigher(0, " + what + ")", Check.BAD, g -> g.sigher(0, what));
            c.refused(two, "13 order(0, " + what + ")", Check.BAD, g -> g.order(0, what));
        }
        for (int kind : new int[] {-1, 0, 6, Integer.MAX_VALUE, Integer.MIN_VALUE}) {
            c.refused(two, "14 mark(0, " + kind + ")", Check.BAD, g -> g.mark(0, kind));
        }
    }
}
