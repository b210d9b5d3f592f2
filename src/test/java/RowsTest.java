/** Promises 1 to 7. */
public final class RowsTest {
    private static final Check c = new Check();

    public static void main(String[] args) {
        anew();
        row();
        layAndAt();
        tear();
        copy();
        mean();
        c.end("RowsTest");
    }

    private static void anew() {
        SighGuild g = new SighGuild();
        for (int what = 0; what <= 10; what++) {
            c.due("1 count(" + what + ")", g.count(what), 0);
        }
        c.due("1 asked()", g.asked(), 0);
        c.due("1 upper()", g.upper(), 0);
        c.due("1 lower()", g.lower(), 1);
        c.due("1 finding()", g.finding(), 0);
        for (int f = 1; f <= 5; f++) {
            c.due("1 findings(" + f + ")", g.findings(f), 0);
        }
        for (int r = 0; r < 6; r++) {
            int row = r;
            c.found(g, "1 at a new object's row", Check.NOTHING, () -> g.at(row, 0));
        }
        for (int t = 0; t < 4; t++) {
            int text = t;
            c.found(g, "1 put in a new object's text", Check.NOTHING, () -> g.put(text, 0, 1));
        }
        c.refused(g, "1 sigher(0, 0)", Check.BAD, () -> g.sigher(0, 0));
        c.refused(g, "1 order(0, 0)", Check.BAD, () -> g.order(0, 0));
    }

    private static void row() {
        SighGuild g = new SighGuild();
        c.due("2 row(0, 0)", g.row(0, 0), 0);
        c.ints(g, 0);
        c.due("2 row(5, 40)", g.row(5, 40), 40);
        c.due("2 count(8)", g.count(8), 2);
        g.lay(5, 39, 7);
        g.lay(5, 1, 8);
        c.due("2 row(5, 3) anew", g.row(5, 3), 3);
        c.ints(g, 5, 0, 0, 0);
        c.due("2 row(5, 40) anew", g.row(5, 40), 40);
        c.told(g, "2 at(5, 39)", g.at(5, 39), 0);
        for (int w : Check.WILD) {
            c.refused(g, "2 row(" + w + ", 1)", Check.BAD, () -> g.row(w, 1));
            c.refused(g, "2 row(" + w + ", -1)", Check.BAD, () -> g.row(w, -1));
        }
        c.refused(g, "2 row(6, 1)", Check.BAD, () -> g.row(6, 1));
        c.refused(g, "2 row(5, 41)", Check.BAD, () -> g.row(5, 41));
        c.refused(g, "2 row(5, max)", Check.BAD, () -> g.row(5, Integer.MAX_VALUE));
        c.found(g, "2 row(5, -1)", Check.SIZE, () -> g.row(5, -1));
        c.found(g, "2 row(1, min)", Check.SIZE, () -> g.row(1, Integer.MIN_VALUE));
    }

    private static void layAndAt() {
        SighGuild g = new SighGuild();
        g.row(2, 3);
        c.told(g, "3 lay(2, 0, 5)", g.lay(2, 0, 5), 0);
        c.told(g, "3 lay(2, 0, min)", g.lay(2, 0, Integer.MIN_VALUE), 5);
        c.told(g, "3 lay(2, 0, 6)", g.lay(2, 0, 6), Integer.MIN_VALUE);
        c.told(g, "3 lay(2, 2, max)", g.lay(2, 2, Integer.MAX_VALUE), 0);
        c.ints(g, 2, 6, 0, Integer.MAX_VALUE);
        for (int w : new int[] {-1, 6, Integer.MAX_VALUE, Integer.MIN_VALUE}) {
            c.refused(g, "3 lay(" + w + ", 0, 1)", Check.BAD, () -> g.lay(w, 0, 1));
            c.refused(g, "4 at(" + w + ", 0)", Check.BAD, () -> g.at(w, 0));
        }
        c.found(g, "3 lay(3, -1, 1)", Check.NOTHING, () -> g.lay(3, -1, 1));
        c.found(g, "4 at(3, -1)", Check.NOTHING, () -> g.at(3, -1));
        for (int i : new int[] {-1, 3, 40, Integer.MAX_VALUE, Integer.MIN_VALUE}) {
            c.found(g, "3 lay(2, " + i + ", 1)", Check.BEYOND, () -> g.lay(2, i, 1));
            c.found(g, "4 at(2, " + i + ")", Check.BEYOND, () -> g.at(2, i));
        }
    }

    private static void tear() {
        SighGuild g = new SighGuild();
        g.row(0, 2);
        g.row(1, 2);
        c.due("5 tear(0)", g.tear(0), 1);
        c.due("5 count(8)", g.count(8), 1);
        c.found(g, "5 tear(0) again", Check.NOTHING, () -> g.tear(0));
        c.found(g, "5 at(0, 0)", Check.NOTHING, () -> g.at(0, 0));
        c.refused(g, "5 tear(-1)", Check.BAD, () -> g.tear(-1));
        c.refused(g, "5 tear(6)", Check.BAD, () -> g.tear(6));
        c.told(g, "5 at(1, 1)", g.at(1, 1), 0);
    }

    private static void copy() {
        SighGuild g = new SighGuild();
        Check.lay(g, 0, 1, 2, 3, 4, 5);
        Check.lay(g, 1, 9, 9, 9);
        c.due("6 copy(0, 3, 1, 1, 2)", g.copy(0, 3, 1, 1, 2), 1);
        c.ints(g, 1, 9, 4, 5);
        c.ints(g, 0, 1, 2, 3, 4, 5);
        c.due("6 copy onto itself, forth", g.copy(0, 0, 0, 1, 4), 1);
        c.ints(g, 0, 1, 1, 2, 3, 4);
        c.due("6 copy onto itself, back", g.copy(0, 2, 0, 0, 3), 1);
        c.ints(g, 0, 2, 3, 4, 3, 4);
        c.due("6 copy of none at the ends", g.copy(0, 5, 1, 3, 0), 1);
        c.due("6 copy of all", g.copy(1, 0, 0, 0, 3), 1);
        c.ints(g, 0, 9, 4, 5, 3, 4);
        copyRefused(g);
    }

    private static void copyRefused(SighGuild g) {
        c.refused(g, "6 copy(-1, ..)", Check.BAD, () -> g.copy(-1, 0, 1, 0, -1));
        c.refused(g, "6 copy(.., 6, ..)", Check.BAD, () -> g.copy(0, 0, 6, 0, -1));
        c.found(g, "6 copy of -1 of missing ones", Check.SIZE, () -> g.copy(2, -1, 3, -1, -1));
        c.found(g, "6 copy of min", Check.SIZE, () -> g.copy(0, 0, 1, 0, Integer.MIN_VALUE));
        c.found(g, "6 copy from a missing one", Check.NOTHING, () -> g.copy(2, 0, 1, 9, 1));
        c.found(g, "6 copy to a missing one", Check.NOTHING, () -> g.copy(0, 9, 2, 0, 1));
        int[][] beyond = {
            {0, 0, 1, 0, 4}, {0, 3, 1, 0, 3}, {0, -1, 1, 0, 1}, {0, 0, 1, -1, 1}, {1, 0, 0, 3, 3},
            {0, 5, 1, 0, 1}, {0, 6, 1, 0, 0}, {0, 0, 1, 4, 0}, {0, Integer.MAX_VALUE, 1, 0, 1},
            {0, 0, 1, Integer.MAX_VALUE, 2}, {0, 1, 1, 1, Integer.MAX_VALUE}, {0, Integer.MIN_VALUE, 1, 0, 0},
        };
        for (int[] b : beyond) {
            c.found(g, "6 copy" + java.util.Arrays.toString(b), Check.BEYOND,
                    () -> g.copy(b[0], b[1], b[2], b[3], b[4]));
        }
    }

    private static void mean() {
        SighGuild g = new SighGuild();
        Check.lay(g, 4, 1, 2, 4);
        c.told(g, "7 mean of 1 2 4", g.mean(4), 2);
        Check.lay(g, 4, -1, -2, -4);
        c.told(g, "7 mean of -1 -2 -4", g.mean(4), -2);
        Check.lay(g, 4, -1, 0);
        c.told(g, "7 mean of -1 0", g.mean(4), 0);
        Check.lay(g, 4, Integer.MAX_VALUE, Integer.MAX_VALUE, Integer.MAX_VALUE - 3);
        c.told(g, "7 mean of great ones", g.mean(4), Integer.MAX_VALUE - 1);
        Check.lay(g, 4, Integer.MIN_VALUE, Integer.MIN_VALUE);
        c.told(g, "7 mean of least ones", g.mean(4), Integer.MIN_VALUE);
        Check.lay(g, 4, 77);
        c.told(g, "7 mean of one", g.mean(4), 77);
        g.row(4, 40);
        g.lay(4, 39, 79);
        c.told(g, "7 mean of forty", g.mean(4), 1);
        g.row(3, 0);
        c.found(g, "7 mean of none", Check.NOUGHT, () -> g.mean(3));
        c.found(g, "7 mean of a missing one", Check.NOTHING, () -> g.mean(0));
        c.refused(g, "7 mean(-1)", Check.BAD, () -> g.mean(-1));
        c.refused(g, "7 mean(6)", Check.BAD, () -> g.mean(6));
    }
}
