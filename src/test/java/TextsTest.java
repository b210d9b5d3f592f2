/** Promises 8 to 11. */
public final class TextsTest {
    private static final Check c = new Check();

    public static void main(String[] args) {
        text();
        put();
        faults();
        faultRefused();
        guild();
        c.end("TextsTest");
    }

    private static void text() {
        SighGuild g = new SighGuild();
        c.due("8 text(0, 0)", g.text(0, 0), 0);
        c.due("8 text(3, 60)", g.text(3, 60), 60);
        c.due("8 count(9)", g.count(9), 2);
        c.due("8 put(3, 59, 65)", g.put(3, 59, 65), 1032);
        c.due("8 text(3, 60) anew", g.text(3, 60), 60);
        c.due("8 put(3, 59, 65) anew", g.put(3, 59, 65), 1032);
        for (int w : Check.WILD) {
            c.refused(g, "8 text(" + w + ", 1)", Check.BAD, () -> g.text(w, 1));
            c.refused(g, "8 text(" + w + ", -1)", Check.BAD, () -> g.text(w, -1));
        }
        c.refused(g, "8 text(4, 1)", Check.BAD, () -> g.text(4, 1));
        c.refused(g, "8 text(3, 61)", Check.BAD, () -> g.text(3, 61));
        c.found(g, "8 text(3, -1)", Check.SIZE, () -> g.text(3, -1));
        c.found(g, "8 text(1, min)", Check.SIZE, () -> g.text(1, Integer.MIN_VALUE));
    }

    private static void put() {
        SighGuild g = new SighGuild();
        g.text(1, 2);
        c.due("9 put(1, 0, 200)", g.put(1, 0, 200), 1032);
        c.due("9 put(1, 0, 127)", g.put(1, 0, 127), 944);
        c.due("9 put(1, 0, 128)", g.put(1, 0, 128), 1127);
        c.due("9 put(1, 0, 256 + 65)", g.put(1, 0, 256 + 65), 872);
        c.due("9 put(1, 0, -1)", g.put(1, 0, -1), 1065);
        c.due("9 put(1, 0, 0)", g.put(1, 0, 0), 999);
        c.due("9 put(1, 0, 1)", g.put(1, 0, 1), 1000);
        c.due("9 asked()", g.asked(), 0);
        c.refused(g, "9 put(-1, 0, 1)", Check.BAD, () -> g.put(-1, 0, 1));
        c.refused(g, "9 put(4, 0, 1)", Check.BAD, () -> g.put(4, 0, 1));
        c.found(g, "9 put(2, -1, 1)", Check.NOTHING, () -> g.put(2, -1, 1));
        for (int i : new int[] {-1, 2, 60, Integer.MAX_VALUE, Integer.MIN_VALUE}) {
            c.found(g, "9 put(1, " + i + ", 1)", Check.BEYOND, () -> g.put(1, i, 1));
        }
    }

    private static void fault(String text, int want) {
        SighGuild g = new SighGuild();
        Check.write(g, 2, text);
        String before = Check.stateOf(g);
        c.due("10 fault of '" + text + "'", g.fault(2), want);
        c.due("10 fault of '" + text + "' changes nothing", before.equals(Check.stateOf(g)) ? 1 : 0, 1);
        if (want == Check.NONE) {
            c.due("11 guild of '" + text + "'", g.guild(2), text.chars().filter(s -> s == 'o').count());
        } else {
            c.refused(g, "11 guild of '" + text + "'", Check.STATE, () -> g.guild(2));
        }
    }

    private static void faults() {
        fault("s00o010", Check.NONE);
        fault("  s99   o999   ", Check.NONE);
        fault("s11d22a33f44m55o111o222o333o444o555o666", Check.NONE);
        fault("p11 p11 p11 p11 p11 o111 o222 o333 o444 o555 o666", Check.NONE);
        fault("", 0);
        fault(" ", 1);
        fault("          ", 10);
        fault("s", 1);
        fault("s1", 2);
        fault("s12", 3);
        fault("s12 ", 4);
        fault("s12o", 4);
        fault("s12o1", 5);
        fault("s12o12", 6);
        fault("s12o123o12", 10);
        fault("x12o123", 0);
        fault("S12o123", 0);
        fault("sx2o123", 1);
        fault("s 12o123", 1);
        fault("s1 2o123", 2);
        fault("s1xo123", 2);
        fault("s12o 123", 4);
        fault("s12o1 23", 5);
        fault("s12o12 3", 6);
        fault("s12ox23", 4);
        fault("s12o103", 5);
        fault("s12o1a3", 5);
        fault("s12o12:", 6);
        fault("s12o12/", 6);
        fault("s123o123", 3);
        fault("s12o1234", 7);
        fault(" o123", 1);
        fault("o123s12", 0);
        fault("s12o123 s12", 8);
        fault("s12o123p12o123", 7);
        fault("s11s11s11s11s11 s11o123", 16);
        fault("s11s11s11s11s11x", 15);
        fault("s1 o111o111o111o111o111o111o111", 2);
        fault("s11o111o111o111o111o111o111 o111", 28);
        fault("s11o111o111o111o111o111o111s", 27);
        fault("s11o111\t", 7);
        fault("s11\0o111", 3);
        fault("s11o111" + (char) (256 - 96), 7);
        fault("s" + (char) (49 + 128) + "1o111", 1);
        fault("o", 0);
        fault("s1" + " ".repeat(58), 2);
        fault(" ".repeat(52) + "s99o999", Check.NONE);
        fault(" ".repeat(53) + "s99o999", Check.NONE);
        fault(" ".repeat(54) + "s99o99", 60);
    }

    private static void faultRefused() {
        SighGuild g = new SighGuild();
        g.text(0, 3);
        c.refused(g, "10 fault(-1)", Check.BAD, () -> g.fault(-1));
        c.refused(g, "10 fault(4)", Check.BAD, () -> g.fault(4));
        c.found(g, "10 fault(3)", Check.NOTHING, () -> g.fault(3));
        c.refused(g, "11 guild(-1)", Check.BAD, () -> g.guild(-1));
        c.refused(g, "11 guild(4)", Check.BAD, () -> g.guild(4));
        c.found(g, "11 guild(3)", Check.NOTHING, () -> g.guild(3));
        c.refused(g, "11 guild(0)", Check.STATE, () -> g.guild(0));
    }

    private static void guild() {
        SighGuild g = Check.guildOf("m45 o034 o234");
        g.sigh(0, 0);
        g.walk(0, 7);
        g.keep(0);
        g.keep(2);
        Check.write(g, 1, "a95 f17 o021o342 o999");
        c.due("11 fault(1)", g.fault(1), Check.NONE);
        c.due("11 count(0) after fault()", g.count(0), 1);
        c.due("11 guild(1)", g.guild(1), 3);
        int[] due = {2, 3, 0, 0, 0, 10, 0, 1, 0, 2, 0};
        for (int what = 0; what < due.length; what++) {
            c.due("11 count(" + what + ")", g.count(what), due[what]);
        }
        c.found(g, "11 on(0)", Check.NOTHING, () -> g.on(0));
        int[][] sighers = {{2, 9, 5, 0, 1}, {3, 1, 7, 0, 7}};
        int[][] orders = {{0, 2, 1, 0, 3}, {3, 4, 2, 0, 2}, {9, 9, 9, 0, 2}};
        for (int what = 0; what < 5; what++) {
            c.told(g, "11 sigher(0, " + what + ")", g.sigher(0, what), sighers[0][what]);
            c.told(g, "11 sigher(1, " + what + ")", g.sigher(1, what), sighers[1][what]);
            for (int o = 0; o < 3; o++) {
                c.told(g, "11 order(" + o + ", " + what + ")", g.order(o, what), orders[o][what]);
            }
        }
        g.keep(1);
        Check.write(g, 1, "a95");
        c.refused(g, "11 guild(1) with a FAULT", Check.STATE, () -> g.guild(1));
        c.due("11 guild(0) again", g.guild(0), 2);
        c.due("11 walk(0, 7)", g.walk(0, 7), 7);
        c.due("11 guild(0) anew", g.guild(0), 2);
        c.told(g, "11 sigher(0, 3)", g.sigher(0, 3), 0);
        c.due("11 count(2)", g.count(2), 0);
    }
}
