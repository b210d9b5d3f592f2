import java.util.Arrays;
import java.util.function.Supplier;

/** The boundary cases of promises 1 to 7. */
final class RowEdges {
    private static final int MIN = Integer.MIN_VALUE, MAX = Integer.MAX_VALUE;
    /** Six ROWS of 3 ints, 10 times the ROW and its place. */
    private static final Supplier<SighGuild> SIX = Edge.anew(g -> {
        for (int r = 0; r < 6; r++) {
            Check.lay(g, r, 10 * r, 10 * r + 1, 10 * r + 2);
        }
    });
    private final Edge e;

    private RowEdges(Edge e) {
        this.e = e;
    }

    static void all(Edge e) {
        RowEdges t = new RowEdges(e);
        e.says(1, "No ROWS, TEXTS, SIGHERS, ORDERS.", t::newObject);
        e.says(2, "A ROW is there with n ints 0: n.", t::rowAnew);
        e.says(2, "BAD: also n above 40", t::rowBad);
        e.says(2, "SIZE: below 0.", t::rowSize);
        e.says(3, "Place i of a ROW is v: what it was, told by asked(): 1.", t::layAnyInt);
        e.says(3, "BAD; NOTHING; BEYOND.", t::layRefused);
        e.says(4, "Place i of a ROW, told by asked(): 1.", t::atTells);
        e.says(4, "BAD; NOTHING; BEYOND.", t::atRefused);
        e.says(5, "A ROW is missing: 1.", t::tearLeavesNone);
        e.says(5, "BAD; NOTHING.", t::tearRefused);
        e.says(6, "n places of a ROW, from one on, come to those of another one", t::copyAnyNumber);
        e.says(6, "(perhaps itself) from one on, as if taken ahead: 1.", t::copyItself);
        e.says(6, "BAD; SIZE: n below 0", t::copyBadThenSize);
        e.says(6, "NOTHING: either", t::copyNothing);
        e.says(6, "BEYOND: not so many there.", t::copyBeyond);
        e.says(7, "The mean of a ROW's ints, cut, told by asked(): 1.", t::meanCut);
        e.says(7, "BAD; NOTHING; NOUGHT.", t::meanRefused);
    }

    private void newObject() {
        SighGuild g = new SighGuild();
        for (int what = 0; what <= 10; what++) {
            e.due("count(" + what + ")", g.count(what), 0);
        }
        for (int r = 0; r < 6; r++) {
            int row = r;
            e.refused("at(" + r + ", 0)", SighGuild::new, Check.NOTHING, x -> x.at(row, 0));
        }
        for (int t = 0; t < 4; t++) {
            int text = t;
            e.refused("fault(" + t + ")", SighGuild::new, Check.NOTHING, x -> x.fault(text));
        }
        e.refused("sigher(0, 0)", SighGuild::new, Check.BAD, x -> x.sigher(0, 0));
        e.refused("order(0, 0)", SighGuild::new, Check.BAD, x -> x.order(0, 0));
        for (int k = 0; k < 3; k++) {
            int place = k;
            e.refused("on(" + k + ")", SighGuild::new, Check.NOTHING, x -> x.on(place));
        }
    }

    private void rowAnew() {
        for (int n : new int[] {0, 1, 39, 40}) {
            SighGuild g = new SighGuild();
            e.due("row(0, " + n + ")", g.row(0, n), n);
            e.ints(g, 0, new int[n]);
            e.due("count(8)", g.count(8), 1);
        }
        SighGuild g = new SighGuild();
        int[] sevens = new int[40];
        Arrays.fill(sevens, 7);
        Check.lay(g, 3, sevens);
        e.due("row(3, 40) over another", g.row(3, 40), 40);
        e.ints(g, 3, new int[40]);
        Check.lay(g, 3, sevens);
        e.due("row(3, 0) over another", g.row(3, 0), 0);
        e.ints(g, 3);
        e.due("row(3, 40) over an empty one", g.row(3, 40), 40);
        e.ints(g, 3, new int[40]);
        SighGuild all = SIX.get();
        e.due("count(8) of all", all.count(8), 6);
        all.row(2, 1);
        e.due("count(8) of all, one anew", all.count(8), 6);
        e.ints(all, 1, 10, 11, 12);
        e.ints(all, 3, 30, 31, 32);
    }

    private void rowBad() {
        e.limits("row(r, 3)", SIX, (g, r) -> g.row(r, 3), 0, 5, r -> 3);
        e.limits("row(r, 3) of a new object", SighGuild::new, (g, r) -> g.row(r, 3), 0, 5, r -> 3);
        e.limits("row(2, n)", SIX, (g, n) -> g.row(2, n), 0, 40, n -> n, Check.SIZE, Check.BAD);
        e.limits("row(5, n)", SighGuild::new, (g, n) -> g.row(5, n), 0, 40, n -> n, Check.SIZE, Check.BAD);
    }

    private void rowSize() {
        for (int n : new int[] {-1, -40, -41, MIN}) {
            e.refused("row(0, " + n + ")", SIX, Check.SIZE, g -> g.row(0, n));
            e.refused("row(5, " + n + ") of a new object", SighGuild::new, Check.SIZE, g -> g.row(5, n));
            e.refused("BAD ahead of SIZE: row(6, " + n + ")", SIX, Check.BAD, g -> g.row(6, n));
            e.refused("BAD ahead of SIZE: row(-1, " + n + ")", SIX, Check.BAD, g -> g.row(-1, n));
        }
    }

    private void layAnyInt() {
        for (int v : new int[] {MIN, MIN + 1, -1, 0, 1, 1 << 16, MAX - 1, MAX}) {
            SighGuild g = SIX.get();
            e.told("lay(0, 1, " + v + ")", g, g.lay(0, 1, v), 1);
            e.told("lay(0, 1, 5) then", g, g.lay(0, 1, 5), v);
            e.ints(g, 0, 0, 5, 2);
            e.ints(g, 1, 10, 11, 12);
        }
        SighGuild g = new SighGuild();
        g.row(0, 40);
        e.told("lay(0, 39, 8)", g, g.lay(0, 39, 8), 0);
        e.told("lay(0, 0, 9)", g, g.lay(0, 0, 9), 0);
        e.told("at(0, 39)", g, g.at(0, 39), 8);
        e.told("at(0, 38)", g, g.at(0, 38), 0);
        e.told("at(0, 0)", g, g.at(0, 0), 9);
        e.told("at(0, 1)", g, g.at(0, 1), 0);
    }

    private void layRefused() {
        e.limits("lay(r, 2, 7)", SIX, (g, r) -> Edge.asks(g, g.lay(r, 2, 7)), 0, 5, r -> 10 * r + 2);
        for (int size : new int[] {0, 1, 3, 39, 40}) {
            Supplier<SighGuild> state = Edge.anew(g -> g.row(4, size));
            e.limits("lay(4, i, 7) of " + size, state, (g, i) -> g.lay(4, i, 7), 0, size - 1, i -> 1,
                    Check.BEYOND, Check.BEYOND);
        }
        Supplier<SighGuild> shrunk = Edge.anew(g -> g.row(4, 40), g -> g.row(4, 2));
        e.limits("lay(4, i, 7) of a lesser one", shrunk, (g, i) -> g.lay(4, i, 7), 0, 1, i -> 1,
                Check.BEYOND, Check.BEYOND);
        for (int i : new int[] {MIN, -1, 0, 3, 40, MAX}) {
            e.refused("NOTHING ahead of BEYOND: lay(0, " + i + ", 1)", SighGuild::new, Check.NOTHING,
                    g -> g.lay(0, i, 1));
            e.refused("BAD ahead of all: lay(6, " + i + ", 1)", SIX, Check.BAD, g -> g.lay(6, i, 1));
            e.refused("BAD ahead of all: lay(-1, " + i + ", 1)", SIX, Check.BAD, g -> g.lay(-1, i, 1));
        }
    }

    private void atTells() {
        SighGuild g = SIX.get();
        for (int r = 0; r < 6; r++) {
            for (int i = 0; i < 3; i++) {
                e.told("at(" + r + ", " + i + ")", g, g.at(r, i), 10 * r + i);
            }
        }
        for (int v : new int[] {MIN, -9, -3, -1, 0, MAX}) {
            g.lay(5, 0, v);
            e.told("at(5, 0) of " + v, g, g.at(5, 0), v);
            e.told("at(5, 0) of " + v + " again", g, g.at(5, 0), v);
        }
    }

    private void atRefused() {
        e.limits("at(r, 1)", SIX, (g, r) -> Edge.asks(g, g.at(r, 1)), 0, 5, r -> r == 0 ? 1 : 10 * r + 1);
        for (int size : new int[] {0, 1, 3, 39, 40}) {
            Supplier<SighGuild> state = Edge.anew(g -> g.row(1, size));
            e.limits("at(1, i) of " + size, state, (g, i) -> g.at(1, i), 0, size - 1, i -> 1,
                    Check.BEYOND, Check.BEYOND);
        }
        for (int i : new int[] {MIN, -1, 0, 3, 40, MAX}) {
            e.refused("NOTHING ahead of BEYOND: at(0, " + i + ")", SighGuild::new, Check.NOTHING, g -> g.at(0, i));
            e.refused("BAD ahead of all: at(6, " + i + ")", SIX, Check.BAD, g -> g.at(6, i));
            e.refused("BAD ahead of all: at(-1, " + i + ")", SIX, Check.BAD, g -> g.at(-1, i));
        }
    }

    private void tearLeavesNone() {
        for (int r = 0; r < 6; r++) {
            SighGuild g = SIX.get();
            e.due("tear(" + r + ")", g.tear(r), 1);
            e.due("count(8)", g.count(8), 5);
            for (int other = 0; other < 6; other++) {
                e.due("at(" + other + ", 0)", g.at(other, 0), other == r ? Check.FINDING : 1);
            }
            e.due("row(" + r + ", 3) then", g.row(r, 3), 3);
            e.ints(g, r, 0, 0, 0);
        }
        Supplier<SighGuild> torn = Edge.anew(g -> Check.lay(g, 0, 5, 6), g -> g.row(1, 2), g -> g.tear(0));
        e.refused("at(0, 0)", torn, Check.NOTHING, g -> g.at(0, 0));
        e.refused("lay(0, 0, 1)", torn, Check.NOTHING, g -> g.lay(0, 0, 1));
        e.refused("tear(0)", torn, Check.NOTHING, g -> g.tear(0));
        e.refused("copy(0, 0, 1, 0, 0)", torn, Check.NOTHING, g -> g.copy(0, 0, 1, 0, 0));
        e.refused("copy(1, 0, 0, 0, 0)", torn, Check.NOTHING, g -> g.copy(1, 0, 0, 0, 0));
        e.refused("mean(0)", torn, Check.NOTHING, g -> g.mean(0));
        e.refused("who(0)", torn, Check.NOTHING, g -> g.who(0));
        SighGuild empty = Edge.anew(g -> g.row(0, 0)).get();
        e.due("tear(0) of an empty one", empty.tear(0), 1);
        e.due("as at first", empty.digest(), new SighGuild().digest());
    }

    private void tearRefused() {
        e.limits("tear(r)", SIX, SighGuild::tear, 0, 5, r -> 1);
        e.limits("tear(r) of a new object", SighGuild::new, SighGuild::tear, 0, 5, r -> Check.FINDING);
        for (int r = 0; r < 6; r++) {
            int row = r;
            e.refused("tear(" + r + ") of a missing one", SighGuild::new, Check.NOTHING, g -> g.tear(row));
        }
    }

    private void copyAnyNumber() {
        SighGuild g = new SighGuild();
        int[] forty = new int[40];
        for (int i = 0; i < 40; i++) {
            forty[i] = i + 1;
        }
        Check.lay(g, 0, forty);
        g.row(5, 40);
        e.due("copy of none", g.copy(0, 0, 5, 0, 0), 1);
        e.ints(g, 5, new int[40]);
        e.due("copy of all", g.copy(0, 0, 5, 0, 40), 1);
        e.ints(g, 5, forty);
        SighGuild h = SIX.get();
        e.due("copy of one", h.copy(3, 2, 4, 0, 1), 1);
        e.ints(h, 4, 32, 41, 42);
        e.ints(h, 3, 30, 31, 32);
        h.pairs(0);
        e.due("copy leaves asked()", h.copy(3, 0, 4, 1, 2), 1);
        e.due("asked()", h.asked(), Check.NONE);
        e.ints(h, 4, 32, 30, 31);
    }

    private void copyItself() {
        int[][] due = {
            {0, 1, 4, 1, 1, 2, 3, 4}, {1, 0, 4, 2, 3, 4, 5, 5}, {0, 2, 3, 1, 2, 1, 2, 3}, {2, 0, 3, 3, 4, 5, 4, 5},
            {0, 0, 5, 1, 2, 3, 4, 5}, {0, 4, 1, 1, 2, 3, 4, 1}, {4, 0, 1, 5, 2, 3, 4, 5}, {5, 0, 0, 1, 2, 3, 4, 5},
            {0, 5, 0, 1, 2, 3, 4, 5},
        };
        for (int[] d : due) {
            SighGuild g = new SighGuild();
            Check.lay(g, 1, 1, 2, 3, 4, 5);
            e.due("copy(1, " + d[0] + ", 1, " + d[1] + ", " + d[2] + ")", g.copy(1, d[0], 1, d[1], d[2]), 1);
            e.ints(g, 1, Arrays.copyOfRange(d, 3, 8));
        }
    }

    private void copyBadThenSize() {
        e.limits("copy(r, 0, 1, 0, 2)", SIX, (g, r) -> g.copy(r, 0, 1, 0, 2), 0, 5, r -> 1);
        e.limits("copy(1, 0, to, 0, 2)", SIX, (g, to) -> g.copy(1, 0, to, 0, 2), 0, 5, to -> 1);
        e.limits("copy(1, 0, 2, 0, n)", SIX, (g, n) -> g.copy(1, 0, 2, 0, n), 0, 3, n -> 1,
                Check.SIZE, Check.BEYOND);
        for (int n : new int[] {-1, MIN}) {
            e.refused("BAD ahead of SIZE: from 6", SIX, Check.BAD, g -> g.copy(6, 0, 0, 0, n));
            e.refused("BAD ahead of SIZE: from -1", SIX, Check.BAD, g -> g.copy(-1, 0, 0, 0, n));
            e.refused("BAD ahead of SIZE: to 6", SIX, Check.BAD, g -> g.copy(0, 0, 6, 0, n));
            e.refused("BAD ahead of SIZE: to -1", SIX, Check.BAD, g -> g.copy(0, 0, -1, 0, n));
            e.refused("SIZE ahead of NOTHING", SighGuild::new, Check.SIZE, g -> g.copy(0, 0, 1, 0, n));
            e.refused("SIZE ahead of BEYOND", SIX, Check.SIZE, g -> g.copy(0, 9, 1, -9, n));
        }
        e.refused("BAD ahead of NOTHING: from", SighGuild::new, Check.BAD, g -> g.copy(6, 0, 0, 0, 1));
        e.refused("BAD ahead of NOTHING: to", SighGuild::new, Check.BAD, g -> g.copy(0, 0, 6, 0, 1));
    }

    private void copyNothing() {
        Supplier<SighGuild> one = Edge.anew(g -> Check.lay(g, 2, 1, 2, 3));
        for (int n : new int[] {0, 1, 4, MAX}) {
            e.refused("from a missing one, " + n, one, Check.NOTHING, g -> g.copy(0, 0, 2, 0, n));
            e.refused("to a missing one, " + n, one, Check.NOTHING, g -> g.copy(2, 0, 3, 0, n));
            e.refused("both missing, " + n, one, Check.NOTHING, g -> g.copy(0, 0, 5, 0, n));
            e.refused("itself missing, " + n, one, Check.NOTHING, g -> g.copy(4, 0, 4, 0, n));
        }
        e.refused("NOTHING ahead of BEYOND: from", one, Check.NOTHING, g -> g.copy(0, -1, 2, 9, 1));
        e.refused("NOTHING ahead of BEYOND: to", one, Check.NOTHING, g -> g.copy(2, 9, 0, -1, 1));
    }

    private void copyBeyond() {
        Supplier<SighGuild> two = Edge.anew(g -> Check.lay(g, 0, 1, 2, 3, 4, 5), g -> Check.lay(g, 1, 6, 7, 8),
                g -> g.row(2, 0), g -> g.row(3, 40));
        for (int n = 0; n <= 3; n++) {
            int many = n;
            e.limits("copy(0, i, 1, 0, " + n + ")", two, (g, i) -> g.copy(0, i, 1, 0, many), 0, 5 - n, i -> 1,
                    Check.BEYOND, Check.BEYOND);
            e.limits("copy(0, 0, 1, j, " + n + ")", two, (g, j) -> g.copy(0, 0, 1, j, many), 0, 3 - n, j -> 1,
                    Check.BEYOND, Check.BEYOND);
            e.limits("copy(0, i, 0, 0, " + n + ")", two, (g, i) -> g.copy(0, i, 0, 0, many), 0, 5 - n, i -> 1,
                    Check.BEYOND, Check.BEYOND);
        }
        e.limits("copy(3, i, 3, 0, 40)", two, (g, i) -> g.copy(3, i, 3, 0, 40), 0, 0, i -> 1,
                Check.BEYOND, Check.BEYOND);
        e.limits("copy(2, i, 2, 0, 0)", two, (g, i) -> g.copy(2, i, 2, 0, 0), 0, 0, i -> 1,
                Check.BEYOND, Check.BEYOND);
        e.limits("copy(3, 0, 2, 0, n)", two, (g, n) -> g.copy(3, 0, 2, 0, n), 0, 0, n -> 1,
                Check.SIZE, Check.BEYOND);
        int[][] wraps = {{1, 1, MAX}, {MAX, 0, 1}, {0, MAX, 1}, {MAX, MAX, MAX}, {MAX, 0, MAX}, {2, 0, MAX - 1},
            {MIN, 0, 1}, {0, MIN, 1}, {MIN, MIN, MAX}, {MAX, 0, 0}, {0, MAX, 0}, {MIN, 0, 0}, {0, MIN, 0}};
        for (int[] w : wraps) {
            e.refused("copy(0, " + w[0] + ", 1, " + w[1] + ", " + w[2] + ")", two, Check.BEYOND,
                    g -> g.copy(0, w[0], 1, w[1], w[2]));
        }
    }

    private void mean(int want, int... ints) {
        SighGuild g = new SighGuild();
        Check.lay(g, 0, ints);
        e.told("mean of " + Arrays.toString(ints), g, g.mean(0), want);
    }

    private void meanCut() {
        mean(3, 3, 4);
        mean(-3, -3, -4);
        mean(0, 0, 1);
        mean(0, 0, -1);
        mean(0, 1, -2);
        mean(0, 2, -1);
        mean(1, 1, 1, 2);
        mean(1, 1, 2, 2);
        mean(-1, -1, -2, -2);
        mean(0, 0);
        mean(MIN, MIN);
        mean(MAX, MAX);
        mean(0, MIN, MAX);
        mean(1 << 30, MAX, 1);
        mean(MAX, MAX, MAX);
        mean(MIN, MIN, MIN);
        mean(-(1 << 30), MIN, -1);
        int[] forty = new int[40];
        Arrays.fill(forty, MAX);
        mean(MAX, forty);
        forty[39] = MAX - 1;
        mean(MAX - 1, forty);
        Arrays.fill(forty, MIN);
        mean(MIN, forty);
        forty[0] = MIN + 1;
        mean(MIN + 1, forty);
        Arrays.fill(forty, 0);
        forty[39] = 39;
        mean(0, forty);
        forty[39] = 40;
        mean(1, forty);
        forty[39] = -39;
        mean(0, forty);
    }

    private void meanRefused() {
        e.limits("mean(r)", SIX, (g, r) -> Edge.asks(g, g.mean(r)), 0, 5, r -> 10 * r + 1);
        for (int r = 0; r < 6; r++) {
            int row = r;
            e.refused("mean(" + r + ") of a missing one", SighGuild::new, Check.NOTHING, g -> g.mean(row));
            e.refused("mean(" + r + ") of none", Edge.anew(g -> g.row(row, 0)), Check.NOUGHT, g -> g.mean(row));
        }
        e.limits("BAD first: mean(r) of a new object", SighGuild::new, SighGuild::mean, 0, 5, r -> Check.FINDING);
    }
}
