/** Promises 39 to 45. */
public final class ToldTest {
    private static final Check c = new Check();

    public static void main(String[] args) {
        asked();
        chance();
        count();
        findings();
        digest();
        constants();
        c.end("ToldTest");
    }

    private static void is(SighGuild g, String call, int want) {
        c.due("39 asked() behind " + call, g.asked(), want);
    }

    private static void asked() {
        SighGuild g = Check.guildOf(SighersTest.FIVE);
        is(g, "guild()", 0);
        g.sigher(2, 1);
        is(g, "sigher()", 7);
        g.row(0, 2);
        is(g, "row()", 7);
        g.lay(0, 1, 30);
        is(g, "lay()", 0);
        g.at(0, 1);
        is(g, "at()", 30);
        g.mean(0);
        is(g, "mean()", 15);
        g.order(5, 2);
        is(g, "order()", 8);
        g.plain();
        is(g, "plain()", 10);
        g.pairs(0);
        is(g, "pairs()", 7);
        g.choir(5);
        is(g, "choir()", 15);
        g.at(0, 2);
        g.sigher(5, 0);
        g.order(6, 0);
        g.mean(1);
        g.pairs(10);
        g.choir(-1);
        g.lay(0, -1, 3);
        is(g, "what is refused", 15);
        g.odds(1, 1);
        g.mid(1);
        g.give(1);
        g.most(1);
        g.dusk(0, 9, 2);
        g.lots(3, 3);
        g.put(0, 0, 3);
        g.count(1);
        g.digest();
        g.strike(2);
        g.loose(1, 1, 1);
        g.takes(0, 0);
        g.undo(0);
        g.guild(0);
        is(g, "all others", 15);
    }

    private static void chance() {
        SighGuild g = Check.guildOf("f00 o014 o013");
        c.due("40 upper() before", g.upper(), 0);
        c.due("41 lower() before", g.lower(), 1);
        c.chance(g, "40 odds(1, 4)", g.odds(1, 4), 8, 9);
        g.odds(67, 4);
        g.mid(13);
        c.due("40 upper() stays", g.upper(), 8);
        c.due("41 lower() stays", g.lower(), 9);
        g.plain();
        g.guild(0);
        g.lots(1, 1);
        c.due("40 upper() stays", g.upper(), 8);
        c.due("41 lower() stays", g.lower(), 9);
        c.chance(g, "40 odds(66, 4)", g.odds(66, 4), 0, 1);
    }

    private static void count() {
        SighGuild g = Check.guildOf("d41 f02 p72 a36 m19 o010 o071 o935");
        g.row(0, 0);
        g.row(5, 40);
        g.row(5, 4);
        g.text(3, 0);
        g.sigh(0, 1);
        g.rest(4);
        g.keep(0);
        g.keep(1);
        g.keep(1);
        int[] due = {5, 3, 2, 1, 2, 1 + 0 + 7 + 3 + 3, 2, 2, 2, 2, 2};
        for (int what = 0; what < due.length; what++) {
            c.due("42 count(" + what + ")", g.count(what), due[what]);
        }
        for (int what : new int[] {-1, 11, Integer.MAX_VALUE, Integer.MIN_VALUE}) {
            c.refused(g, "42 count(" + what + ")", Check.BAD, () -> g.count(what));
        }
    }

    private static void findings() {
        SighGuild g = Check.guildOf("s00 o111");
        g.row(0, 1);
        g.row(1, 0);
        for (int k = 0; k < 2; k++) {
            c.found(g, "43 NOTHING", Check.NOTHING, () -> g.at(5, 0));
            c.found(g, "43 BEYOND", Check.BEYOND, () -> g.at(0, 1));
            c.found(g, "43 UNLIKE", Check.UNLIKE, () -> g.mark(0, 1));
            c.found(g, "43 NOUGHT", Check.NOUGHT, () -> g.mean(1));
            c.found(g, "43 SIZE", Check.SIZE, () -> g.row(0, -1));
        }
        g.at(6, 0);
        g.guild(3);
        c.due("43 finding()", g.finding(), Check.NOTHING);
        g.at(0, 0);
        c.due("43 finding() stays", g.finding(), Check.NOTHING);
        int[] due = {3, 2, 2, 2, 2};
        for (int f = 1; f <= 5; f++) {
            c.due("44 findings(" + f + ")", g.findings(f), due[f - 1]);
        }
        for (int f : new int[] {-1, 0, 6, Integer.MAX_VALUE, Integer.MIN_VALUE}) {
            c.refused(g, "44 findings(" + f + ")", Check.BAD, () -> g.findings(f));
        }
    }

    private static long fold(long h, int... values) {
        long sum = h;
        for (int v : values) {
            sum = 31 * sum + v;
        }
        return sum;
    }

    private static void digest() {
        long empty = fold(17, 0, 0, 0, 0, 0, 0, 0, 0, 0, 0, 0, -1, -1, -1, -1, -1, -1, -1, -1, -1, -1, -1, -1, -1);
        c.due("45 digest() of a new object", new SighGuild().digest(), empty);
        SighGuild two = Check.guildOf("s12o345o678");
        c.due("45 digest() of two ORDERS", two.digest(), fold(17, 1, 2, 0, 0, 0, 1, 0, 0, 0, 1, 0,
                0, 1, 2, 0, 0, 3, 4, 5, 0, 0, 6, 7, 8, 0, 0, -1, -1, -1, -1, -1, -1, -1, -1, -1,
                11, 's', '1', '2', 'o', '3', '4', '5', 'o', '6', '7', '8', -1, -1, -1));
        SighGuild g = Check.guildOf("m57 f02o039");
        Check.lay(g, 1, 70, -8);
        g.row(4, 0);
        g.text(2, 2);
        g.put(2, 1, 200);
        g.sigh(0, 0);
        g.keep(1);
        g.walk(1, 6);
        long h = fold(17, 2, 1, 2, 11, 1, 4, 1, 0, 2, 2, 1);
        h = fold(h, 4, 4, 7, 0, 0, 3, 0, 2, 6, 0);
        h = fold(h, 0, 3, 9, 1, 0);
        h = fold(h, -1, 1, -1);
        h = fold(h, -1, 2, 70, -8, -1, -1, 0, -1);
        h = fold(h, 11, 'm', '5', '7', ' ', 'f', '0', '2', 'o', '0', '3', '9', -1, 2, 32, -56, -1);
        c.due("45 digest()", g.digest(), h);
        c.due("45 digest() again", g.digest(), h);
    }

    private static void constants() {
        c.due("BAD", SighGuild.BAD, -1);
        c.due("FULL", SighGuild.FULL, -2);
        c.due("FINDING", SighGuild.FINDING, -3);
        c.due("STATE", SighGuild.STATE, -4);
        c.due("SPENT", SighGuild.SPENT, -6);
        c.due("NONE", SighGuild.NONE, -9);
    }
}
