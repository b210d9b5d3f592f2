import java.util.function.Supplier;

/** Promises 32 to 34. */
public final class WhoTest {
    private static final Check c = new Check();
    private static SighGuild g = Check.guildOf(SighersTest.FIVE);

    public static void main(String[] args) {
        pairs();
        later();
        refusals();
        c.end("WhoTest");
    }

    private static void who(int want) {
        c.due("32 who(2)", g.who(2), want);
    }

    private static void kinds(int i, int want) {
        c.due("33 kinds(" + i + ", 2)", g.kinds(i, 2), want);
    }

    private static void breaths(int i, int want) {
        c.due("34 breaths(" + i + ", 2)", g.breaths(i, 2), want);
    }

    private static void pairs() {
        Check.lay(g, 2);
        who(31);
        kinds(1, 63);
        breaths(3, 1023);
        Check.lay(g, 2, 2, 1);
        who(17);
        kinds(0, 18);
        kinds(1, 0);
        breaths(0, 1022);
        breaths(1, 0);
        Check.lay(g, 2, 2, 1, 2, 1);
        who(1);
        kinds(4, 0);
        breaths(4, 1020);
        Check.lay(g, 2, 0, 1);
        who(29);
        kinds(0, 55);
        Check.lay(g, 2, 4, 6, 0, 1);
        who(4);
        kinds(2, 33);
        kinds(0, 0);
        breaths(2, 896);
        breaths(3, 0);
        Check.lay(g, 2, 4, 6, 0, 1, 2, 3);
        who(0);
        kinds(2, 0);
        breaths(2, 0);
        Check.lay(g, 2, 1, 0, 3, 0, 5, 0);
        who(2);
        kinds(1, 8);
        breaths(1, 1023);
        Check.lay(g, 2, 0, 0, 0, 0, 0, 0, 0, 0, 0, 0, 0, 0);
        who(2);
        Check.lay(g, 2, 5, 5, 5, 2);
        who(0);
        kinds(2, 0);
        breaths(2, 0);
    }

    private static void later() {
        Check.lay(g, 2, 3, 9);
        who(0);
        kinds(2, 0);
        g.rest(2);
        kinds(2, 1);
        breaths(2, 0);
        Check.lay(g, 2, 3, 0);
        g.sigh(1, 3);
        who(2);
        Check.lay(g, 2, 4, 3, 2, 1);
        who(1);
        g.sigh(0, 4);
        who(0);
        kinds(0, 0);
        breaths(0, 1008);
    }

    private static void wrong(String what, int finding, int... ints) {
        g = Check.guildOf(SighersTest.FIVE);
        Check.lay(g, 2, ints);
        c.found(g, "32 who of " + what, finding, () -> g.who(2));
        c.found(g, "33 kinds of " + what, finding, () -> g.kinds(0, 2));
        c.found(g, "34 breaths of " + what, finding, () -> g.breaths(0, 2));
    }

    private static void refusals() {
        wrong("one int", Check.SIZE, 0);
        wrong("an odd size, none such", Check.SIZE, 9, 99, 9);
        wrong("thirteen", Check.SIZE, new int[13]);
        wrong("fourteen", Check.SIZE, new int[14]);
        wrong("forty", Check.SIZE, new int[40]);
        wrong("no such ORDER", Check.UNLIKE, 6, 0);
        wrong("an ORDER below 0", Check.UNLIKE, -1, 0);
        wrong("too much BREATH", Check.UNLIKE, 0, 10);
        wrong("BREATH below 0", Check.UNLIKE, 0, -1);
        wrong("BREATH none such", Check.UNLIKE, 1, -9);
        wrong("a late one", Check.UNLIKE, 0, 0, 5, 9, 0, 10);
        wrong("a late ORDER", Check.UNLIKE, 0, 9, 7, 1);
        c.found(g, "32 who(3)", Check.NOTHING, () -> g.who(3));
        c.found(g, "33 kinds(4, 3)", Check.NOTHING, () -> g.kinds(4, 3));
        c.found(g, "34 breaths(4, 3)", Check.NOTHING, () -> g.breaths(4, 3));
        Supplier<SighGuild> five = Edge.of(SighersTest.FIVE);
        for (int r : new int[] {-1, 6, Integer.MAX_VALUE, Integer.MIN_VALUE}) {
            c.refused(five, "32 who(" + r + ")", Check.BAD, x -> x.who(r));
            c.refused(five, "33 kinds(0, " + r + ")", Check.BAD, x -> x.kinds(0, r));
            c.refused(five, "34 breaths(0, " + r + ")", Check.BAD, x -> x.breaths(0, r));
        }
        for (int i : new int[] {-1, 5, Integer.MAX_VALUE, Integer.MIN_VALUE}) {
            c.refused(five, "33 kinds(" + i + ", 3)", Check.BAD, x -> x.kinds(i, 3));
            c.refused(five, "34 breaths(" + i + ", 3)", Check.BAD, x -> x.breaths(i, 3));
        }
        SighGuild none = new SighGuild();
        none.row(0, 0);
        c.due("32 who(0) without a guild", none.who(0), 0);
        none.row(0, 2);
        c.found(none, "32 who(0) of no ORDERS", Check.UNLIKE, () -> none.who(0));
        c.refused(none, "33 kinds(0, 0) without a guild", Check.BAD, () -> none.kinds(0, 0));
    }
}
