import java.util.function.Supplier;

/** Promises 26 to 28. */
public final class RoundsTest {
    private static final Check c = new Check();
    private static final String STREET = "m50 p40 o213 o535 o021 o852 o217";

    public static void main(String[] args) {
        way();
        dusk();
        duskLater();
        hours();
        refusals();
        c.end("RoundsTest");
    }

    private static void way(SighGuild g, int set, int want) {
        c.due("26 way(0, " + Integer.toBinaryString(set) + ")", g.way(0, set), want);
    }

    private static void way() {
        SighGuild g = Check.guildOf(STREET);
        way(g, 0, 0);
        way(g, 0b00001, 2);
        way(g, 0b01000, 8);
        way(g, 0b11111, 8);
        way(g, 0b00100, 0);
        g.sigh(0, 2);
        g.walk(0, 4);
        way(g, 0b11111, 12);
        way(g, 0b01100, 12);
        way(g, 0b00100, 4);
        way(g, 0, 0);
        way(g, 0b00011, 4);
        way(g, 0b01001, 8);
        way(g, 0b01010, 4);
        g.walk(0, 6);
        way(g, 0b01100, 10);
        way(g, 0b00101, 6);
        way(g, 0b00010, 1);
        g.walk(0, 9);
        way(g, 0b11111, 9);
        c.due("26 way(1, ..)", g.way(1, 0b11111), 8);
    }

    private static void dusk(SighGuild g, int i, int n, int want, int... row) {
        c.due("27 dusk(" + i + ", " + n + ", 3)", g.dusk(i, n, 3), want);
        c.ints(g, 3, row);
    }

    private static void dusk() {
        SighGuild g = Check.guildOf(STREET);
        dusk(g, 0, 0, 0);
        dusk(g, 0, 1, 3, 2);
        dusk(g, 0, 2, 3, 2);
        dusk(g, 0, 3, 9, 4);
        dusk(g, 0, 4, 14, 0, 4);
        dusk(g, 0, 5, 17, 2, 0, 4);
        dusk(g, 0, 8, 21, 0, 4, 1);
        dusk(g, 0, 9, 24, 2, 0, 4, 1);
        dusk(g, 0, 11, 24, 2, 0, 4, 1);
        dusk(g, 0, 12, 25, 0, 4, 1, 3);
        dusk(g, 0, 17, 25, 0, 4, 1, 3);
        dusk(g, 0, 18, 25, 0, 1, 3, 4);
        dusk(g, 0, 30, 25, 0, 1, 3, 4);
        dusk(g, 1, 30, 10, 1, 4);
        dusk(g, 1, 10, 10, 1, 4);
        dusk(g, 1, 9, 10, 4, 1);
        dusk(g, 1, 6, 8, 0, 4);
        c.due("27 aside", g.count(2) + g.count(3) + g.count(4), 0);
    }

    private static void duskLater() {
        SighGuild g = Check.guildOf(STREET);
        g.walk(0, 2);
        g.sigh(0, 4);
        dusk(g, 0, 1, 5, 0);
        dusk(g, 0, 5, 12, 0, 1);
        dusk(g, 1, 3, 2, 0);
        dusk(g, 1, 2, 0);
        SighGuild h = Check.guildOf("s90 o010 o013");
        dusk(h, 0, 30, 3, 0, 1);
        dusk(h, 0, 1, 3, 1);
        SighGuild i = Check.guildOf("s90 o013 o013 o013");
        dusk(i, 0, 2, 6, 0, 1);
        dusk(i, 0, 3, 9, 0, 1, 2);
        SighGuild k = Check.guildOf("a90 o049 o935");
        dusk(k, 0, 9, 0);
        dusk(k, 0, 10, 5, 1);
        SighGuild all = Check.guildOf("m90 o010 o110 o210 o310 o410 o510");
        dusk(all, 0, 11, 12, 0, 1, 2, 3, 4, 5);
        dusk(all, 0, 10, 10, 0, 1, 2, 3, 4);
    }

    private static void hours() {
        SighGuild g = Check.guildOf(STREET);
        c.due("28 hours of none", g.hours(0, 0), 0);
        c.due("28 hours where it is", g.hours(0, 0b00100), 1);
        c.due("28 hours of all", g.hours(0, 0b11111), Check.NONE);
        c.due("28 hours of all but one", g.hours(0, 0b10111), 9);
        c.due("28 by all its BREATH", g.hours(0, 0b11011), 12);
        c.due("28 not by its BREATH", g.hours(1, 0b01000), Check.NONE);
        c.due("28 way all the same", g.way(1, 0b01000), 8);
        g.sigh(0, 2);
        c.due("28 what is done needs none", g.hours(0, 0b00100), 0);
        c.due("28 nor BREATH", g.hours(0, 0b10111), 8);
        c.due("28 not by its BREATH", g.hours(0, 0b11011), Check.NONE);
        g.walk(0, 4);
        c.due("28 the nearer end first", g.hours(0, 0b00011), 6);
        SighGuild h = Check.guildOf("a90 f00 p90 o049 o935 o171");
        c.due("28 too deep", h.hours(0, 0b001), Check.NONE);
        c.due("28 too deep", h.hours(0, 0b011), Check.NONE);
        c.due("28 not too deep", h.hours(0, 0b010), 10);
        c.due("28 a FORGER", h.hours(1, 0b111), 12);
        c.due("28 too deep for a POET", h.hours(2, 0b100), Check.NONE);
    }

    private static void refusals() {
        SighGuild none = new SighGuild();
        c.refused(none, "26 way(0, 0) without a guild", Check.BAD, () -> none.way(0, 0));
        c.refused(none, "27 dusk(0, 0, 0) without a guild", Check.BAD, () -> none.dusk(0, 0, 0));
        c.refused(none, "28 hours(0, 0) without a guild", Check.BAD, () -> none.hours(0, 0));
        Supplier<SighGuild> street = Edge.of(STREET);
        for (int i : new int[] {-1, 2, Integer.MAX_VALUE, Integer.MIN_VALUE}) {
            c.refused(street, "26 way(" + i + ", 0)", Check.BAD, g -> g.way(i, 0));
            c.refused(street, "27 dusk(" + i + ", 0, 0)", Check.BAD, g -> g.dusk(i, 0, 0));
            c.refused(street, "28 hours(" + i + ", 0)", Check.BAD, g -> g.hours(i, 0));
        }
        for (int set : new int[] {-1, 32, 33, Integer.MAX_VALUE, Integer.MIN_VALUE}) {
            c.refused(street, "26 way(0, " + set + ")", Check.BAD, g -> g.way(0, set));
            c.refused(street, "28 hours(0, " + set + ")", Check.BAD, g -> g.hours(0, set));
        }
        for (int n : new int[] {-1, 31, Integer.MAX_VALUE, Integer.MIN_VALUE}) {
            c.refused(street, "27 dusk(0, " + n + ", 0)", Check.BAD, g -> g.dusk(0, n, 0));
        }
        for (int r : new int[] {-1, 6, Integer.MAX_VALUE, Integer.MIN_VALUE}) {
            c.refused(street, "27 dusk(0, 5, " + r + ")", Check.BAD, g -> g.dusk(0, 5, r));
        }
    }
}
