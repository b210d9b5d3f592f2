import java.util.function.Supplier;

/** The boundary cases of promises 12 to 14, 21, 22, and of what the Terms say of KINDS and of what a SIGHER CAN. */
final class SigherEdges {
    private static final String LETTERS = "sdafmp";
    private static final String TABLE = " o012 o323 o534 o745 o956 o167";
    private static final Supplier<SighGuild> ONE = Edge.of("d41 o935");
    private static final Supplier<SighGuild> MOST = Edge.of("s10 d21 a32 f43 m54 o012 o123 o234 o345 o456 o567");
    private final Edge e;

    private SigherEdges(Edge e) {
        this.e = e;
    }

    static void all(Edge e) {
        SigherEdges t = new SigherEdges(e);
        t.kinds();
        e.says(12, "Of a SIGHER: 0 the KIND, 1 BREATH now, 2 TUNE, 3 the PLACE, 4 ORDERS (bits) that it CAN do, "
                + "told by asked(): 1.", t::sigherTells);
        e.says(12, "BAD.", t::sigherBad);
        e.says(13, "Of an ORDER: 0 the PLACE, 1 DEPTH, 2 what it BRINGS as told, 3 whether it is done (1, 0), "
                + "4 SIGHERS (bits) who CAN do it, told by asked(): 1.", t::orderTells);
        e.says(13, "BAD.", t::orderBad);
        e.says(14, "What a SIGHER that IS of a KIND tells", t::markIsOfKind);
        e.says(14, "a DEEP one (MASTER, too) how much BREATH all ORDERS would TAKE less than of a SIGHER", t::markDeep);
        e.says(14, "an APPRENTICE (POET, too) how many ORDERS are too deep", t::markApprentice);
        e.says(14, "a FORGER how much GOLD all ORDERS would BRING less than by a SIGHER", t::markForger);
        e.says(14, "a MASTER how many ORDERS are not done", t::markMaster);
        e.says(14, "a POET how many are too deep for an APPRENTICE, but not for it", t::markPoet);
        e.says(14, "BAD: also KIND 0; UNLIKE.", t::markRefused);
        e.says(21, "How much BREATH an ORDER TAKES of a SIGHER", t::takesOfEach);
        e.says(21, "(done, or not; NONE: too deep)", t::takesDoneOrTooDeep);
        e.says(21, "BAD.", t::takesBad);
        e.says(22, "What it BRINGS by it", t::bringsByEach);
        e.says(22, "(too deep, done, or not)", t::bringsAlways);
        e.says(22, "BAD.", t::bringsBad);
    }

    private void kinds() {
        e.says(Edge.TERMS, "An ORDER TAKES as much BREATH of a SIGHER as its DEPTH", () ->
                takes("sap", d -> d));
        e.says(Edge.TERMS, "of a DEEP one (MASTER, too) half (cut, 1 at least)", () ->
                takes("dm", d -> d == 1 ? 1 : d / 2));
        e.says(Edge.TERMS, "of a FORGER none", () -> takes("f", d -> 0));
        e.says(Edge.TERMS, "It BRINGS as told", () -> brings("sda", v -> v));
        e.says(Edge.TERMS, "by a FORGER half (cut)", () -> brings("f", v -> v / 2));
        e.says(Edge.TERMS, "by a MASTER 2 more", () -> brings("m", v -> v + 2));
        e.says(Edge.TERMS, "by a POET 1 less (0 at least)", () -> brings("p", v -> v == 0 ? 0 : v - 1));
        e.says(Edge.TERMS, "An APPRENTICE does no DEPTH above 3", () -> deepest('a', 3));
        e.says(Edge.TERMS, "a POET none above 6", () -> deepest('p', 6));
        e.says(Edge.TERMS, "A SIGHER CAN do an ORDER (wherever it is), that is not done, if it does such a DEPTH, "
                + "and has as much BREATH.", this::can);
    }

    private interface Of {
        int by(int v);
    }

    private static boolean isTooDeep(char letter, int depth) {
        return letter == 'a' && depth > 3 || letter == 'p' && depth > 6;
    }

    private void takes(String letters, Of want) {
        for (char letter : letters.toCharArray()) {
            for (int depth = 1; depth <= 9; depth++) {
                SighGuild g = Check.guildOf(letter + "00o0" + depth + "0");
                e.due(letter + " takes of " + depth, g.takes(0, 0),
                        isTooDeep(letter, depth) ? Check.NONE : want.by(depth));
            }
        }
    }

    private void brings(String letters, Of want) {
        for (char letter : letters.toCharArray()) {
            for (int gold = 0; gold <= 9; gold++) {
                SighGuild g = Check.guildOf(letter + "00o09" + gold);
                e.due(letter + " brings of " + gold, g.brings(0, 0), want.by(gold));
            }
        }
    }

    private void deepest(char letter, int limit) {
        for (int depth = 1; depth <= 9; depth++) {
            SighGuild g = Check.guildOf(letter + "90o0" + depth + "5");
            boolean is = depth <= limit;
            e.told(letter + " CAN do " + depth, g, g.sigher(0, 4), is ? 1 : 0);
            e.due(letter + " takes of " + depth, g.takes(0, 0), is ? depth : Check.NONE);
            int gold = letter == 'p' ? 4 : 5;
            e.due(letter + " sighs " + depth, g.sigh(0, 0), is ? gold : Check.STATE);
        }
    }

    /** Every KIND, every DEPTH, every BREATH: as much as that TAKES, and not 1 less. */
    private void can() {
        for (char letter : LETTERS.toCharArray()) {
            for (int depth = 1; depth <= 9; depth++) {
                for (int breath = 0; breath <= 9; breath++) {
                    SighGuild g = Check.guildOf(letter + "" + breath + "0o9" + depth + "5");
                    int needs = letter == 'f' ? 0 : letter == 'd' || letter == 'm' ? Math.max(1, depth / 2) : depth;
                    boolean is = !isTooDeep(letter, depth) && breath >= needs;
                    e.told(letter + " of " + breath + " CAN do " + depth, g, g.sigher(0, 4), is ? 1 : 0);
                    e.told(depth + " by " + letter + " of " + breath, g, g.order(0, 4), is ? 1 : 0);
                }
            }
        }
        SighGuild g = Check.guildOf("s90 f00 o015");
        g.sigh(0, 0);
        e.told("not what is done", g, g.sigher(0, 4), 0);
        e.told("nobody CAN do what is done", g, g.order(0, 4), 0);
    }

    private void sigherTells() {
        String six = "o011o011o011o011o011o011";
        Supplier<SighGuild> least = Edge.of("s00" + six);
        e.limits("sigher(0, what), all least", least, (g, what) -> Edge.asks(g, g.sigher(0, what)), 0, 4, what -> 0);
        int[] due = {5, 9, 9, 9, 63};
        Supplier<SighGuild> greatest = Edge.of("p99" + six, g -> g.walk(0, 9));
        e.limits("sigher(0, what), all greatest", greatest, (g, what) -> Edge.asks(g, g.sigher(0, what)), 0, 4,
                what -> due[what]);
        int[] later = {4, 0, 7, 9, 0};
        Supplier<SighGuild> spent = Edge.of("m17 o913 o914", g -> g.walk(0, 9), g -> g.sigh(0, 0));
        e.limits("sigher(0, what), spent", spent, (g, what) -> Edge.asks(g, g.sigher(0, what)), 0, 4,
                what -> later[what]);
    }

    private void sigherBad() {
        e.limits("sigher(i, 1) of one", ONE, (g, i) -> Edge.asks(g, g.sigher(i, 1)), 0, 0, i -> 4);
        e.limits("sigher(i, 2) of five", MOST, (g, i) -> g.sigher(i, 2), 0, 4, i -> 1);
        for (int what = 0; what <= 4; what++) {
            int of = what;
            e.limits("sigher(i, " + what + ") of none", SighGuild::new, (g, i) -> g.sigher(i, of), 0, -1, i -> 0);
        }
        e.refused("sigher(1, 5)", ONE, Check.BAD, g -> g.sigher(1, 5));
        e.limits("sigher(1, what) of one", ONE, (g, what) -> g.sigher(1, what), 0, 4, what -> Check.BAD);
    }

    private void orderTells() {
        int[] due = {0, 1, 0, 0, 0};
        e.limits("order(0, what), all least", Edge.of("s00 o010"), (g, what) -> Edge.asks(g, g.order(0, what)), 0, 4,
                what -> due[what]);
        int[] great = {9, 9, 9, 0, 31};
        e.limits("order(0, what), all greatest", Edge.of("s90s90d40m40f00 o999"),
                (g, what) -> Edge.asks(g, g.order(0, what)), 0, 4, what -> great[what]);
        int[] done = {0, 9, 9, 1, 0};
        e.limits("order(0, what), done", Edge.of("m90f00 o099", g -> g.sigh(0, 0)),
                (g, what) -> Edge.asks(g, g.order(0, what)), 0, 4, what -> done[what]);
    }

    private void orderBad() {
        e.limits("order(o, 2) of one", ONE, (g, o) -> Edge.asks(g, g.order(o, 2)), 0, 0, o -> 5);
        e.limits("order(o, 0) of six", MOST, (g, o) -> Edge.asks(g, g.order(o, 0)), 0, 5, o -> o == 0 ? 0 : o);
        for (int what = 0; what <= 4; what++) {
            int of = what;
            e.limits("order(o, " + what + ") of none", SighGuild::new, (g, o) -> g.order(o, of), 0, -1, o -> 0);
        }
        e.limits("order(1, what) of one", ONE, (g, what) -> g.order(1, what), 0, 4, what -> Check.BAD);
    }

    private void mark(String text, int kind, int want) {
        SighGuild g = Check.guildOf(text);
        e.due("mark(0, " + kind + ") of " + text, g.mark(0, kind), want);
        e.due("asked()", g.asked(), 0);
    }

    /** What each KIND tells of itself as each KIND; FINDING where it is none of it. */
    private void markIsOfKind() {
        int no = Check.FINDING;
        int[][] due = {{no, no, no, no, no}, {5, no, no, no, no}, {no, 1, no, no, no}, {no, no, 5, no, no},
            {5, no, no, 2, no}, {no, 0, no, no, 1}};
        for (int kind = 0; kind < 6; kind++) {
            for (int as = 1; as <= 5; as++) {
                SighGuild g = Check.guildOf("f00" + LETTERS.charAt(kind) + "00 o059 o030");
                e.due(LETTERS.charAt(kind) + " as " + as, g.mark(1, as), due[kind][as - 1]);
                e.due("finding()", g.finding(), due[kind][as - 1] == no ? Check.UNLIKE : 0);
            }
        }
    }

    private void markDeep() {
        for (String letter : new String[] {"d", "m"}) {
            mark(letter + "00 o010", 1, 0);
            mark(letter + "00 o020", 1, 1);
            mark(letter + "00 o030", 1, 2);
            mark(letter + "00 o090", 1, 5);
            mark(letter + "99 o090o090o090o090o090o090", 1, 30);
            mark(letter + "99 o010o010o010o010o010o010", 1, 0);
        }
        SighGuild g = Check.guildOf("d90 m90 o090 o080");
        g.sigh(0, 0);
        e.due("done or not", g.mark(0, 1), 9);
        e.due("done or not", g.mark(1, 1), 9);
    }

    private void markApprentice() {
        mark("a00 o030", 2, 0);
        mark("a00 o040", 2, 1);
        mark("a90 o010o020o030o040o050o090", 2, 3);
        mark("a00 o090o090o090o090o090o090", 2, 6);
        mark("p00 o060", 2, 0);
        mark("p00 o070", 2, 1);
        mark("p90 o040o050o060o070o080o090", 2, 3);
        mark("p00 o090o090o090o090o090o090", 2, 6);
        SighGuild g = Check.guildOf("a90 f00 o040");
        g.sigh(1, 0);
        e.due("done or not", g.mark(0, 2), 1);
    }

    private void markForger() {
        mark("f00 o010", 3, 0);
        mark("f00 o011", 3, 1);
        mark("f00 o012", 3, 1);
        mark("f00 o019", 3, 5);
        mark("f00 o099o099o099o099o099o099", 3, 30);
        SighGuild g = Check.guildOf("f90 o019");
        g.sigh(0, 0);
        e.due("done or not", g.mark(0, 3), 5);
    }

    private void markMaster() {
        SighGuild g = Check.guildOf("m90 f00 o010o010o010o010o010o090");
        for (int o = 0; o < 6; o++) {
            e.due("mark(0, 4)", g.mark(0, 4), 6 - o);
            g.sigh(1, o);
        }
        e.due("mark(0, 4), all done", g.mark(0, 4), 0);
        mark("m00 o099", 4, 1);
    }

    private void markPoet() {
        int[] due = {0, 0, 0, 1, 1, 1, 0, 0, 0};
        for (int depth = 1; depth <= 9; depth++) {
            mark("p00 o0" + depth + "0", 5, due[depth - 1]);
        }
        mark("p00 o040o050o060o060o050o040", 5, 6);
        SighGuild g = Check.guildOf("p90 f00 o040");
        g.sigh(1, 0);
        e.due("done or not", g.mark(0, 5), 1);
    }

    private void markRefused() {
        int[] up = {-1, 0, 0, 0, 1, 2};
        for (int kind = 0; kind < 6; kind++) {
            Supplier<SighGuild> state = Edge.of(LETTERS.charAt(kind) + "50 o010 o090");
            for (int as = 1; as <= 5; as++) {
                int tried = as;
                if (as != kind && as != up[kind]) {
                    e.refused(LETTERS.charAt(kind) + " as " + as, state, Check.UNLIKE, g -> g.mark(0, tried));
                }
            }
            for (int as : new int[] {Integer.MIN_VALUE, -1, 0, 6, 7, Integer.MAX_VALUE}) {
                e.refused(LETTERS.charAt(kind) + " as " + as, state, Check.BAD, g -> g.mark(0, as));
            }
            e.refused("BAD ahead of UNLIKE", state, Check.BAD, g -> g.mark(1, 3));
        }
        e.limits("mark(i, 4) of five", Edge.of("m10m10m10m10m10o111o111"), (g, i) -> g.mark(i, 4), 0, 4, i -> 2);
        e.limits("mark(i, 1) of none", SighGuild::new, (g, i) -> g.mark(i, 1), 0, -1, i -> 0);
    }

    private void takesOfEach() {
        int no = Check.NONE;
        int[][] due = {{1, 2, 3, 4, 5, 6}, {1, 1, 1, 2, 2, 3}, {1, 2, 3, no, no, no}, {0, 0, 0, 0, 0, 0},
            {1, 1, 1, 2, 2, 3}, {1, 2, 3, 4, 5, 6}};
        for (int kind = 0; kind < 6; kind++) {
            for (int o = 0; o < 6; o++) {
                SighGuild g = Check.guildOf("f00 " + LETTERS.charAt(kind) + "19" + TABLE);
                e.due(LETTERS.charAt(kind) + " of " + o, g.takes(1, o), due[kind][o]);
                e.due("f of " + o, g.takes(0, o), 0);
                g.walk(1, 9);
                g.rest(1);
                e.due(LETTERS.charAt(kind) + " of " + o + ", wherever it is", g.takes(1, o), due[kind][o]);
            }
        }
    }

    private void bringsByEach() {
        int[][] due = {{2, 3, 4, 5, 6, 7}, {2, 3, 4, 5, 6, 7}, {2, 3, 4, 5, 6, 7}, {1, 1, 2, 2, 3, 3},
            {4, 5, 6, 7, 8, 9}, {1, 2, 3, 4, 5, 6}};
        for (int kind = 0; kind < 6; kind++) {
            for (int o = 0; o < 6; o++) {
                SighGuild g = Check.guildOf("f00 " + LETTERS.charAt(kind) + "19" + TABLE);
                e.due(LETTERS.charAt(kind) + " by " + o, g.brings(1, o), due[kind][o]);
                e.due("f by " + o, g.brings(0, o), due[3][o]);
            }
        }
    }

    private void takesDoneOrTooDeep() {
        SighGuild g = Check.guildOf("s90 a90 o070 o030");
        g.sigh(0, 0);
        e.due("done", g.takes(0, 0), 7);
        e.due("too deep, done", g.takes(1, 0), Check.NONE);
        e.due("more than it has", g.takes(0, 1), 3);
        e.due("not too deep", g.takes(1, 1), 3);
        SighGuild h = Check.guildOf("p90 o070 o060");
        e.due("too deep", h.takes(0, 0), Check.NONE);
        e.due("not too deep", h.takes(0, 1), 6);
    }

    private void takesBad() {
        e.limits("takes(i, 0) of one", ONE, (g, i) -> g.takes(i, 0), 0, 0, i -> 1);
        e.limits("takes(0, o) of one", ONE, (g, o) -> g.takes(0, o), 0, 0, o -> 1);
        int[] due = {1, 1, 1, 0, 1};
        e.limits("takes(i, 0) of five", MOST, (g, i) -> g.takes(i, 0), 0, 4, i -> due[i]);
        e.limits("takes(0, o) of six", MOST, (g, o) -> g.takes(0, o), 0, 5, o -> o + 1);
        e.limits("BAD ahead of NONE: takes(2, o)", MOST, (g, o) -> g.takes(2, o), 0, 5, o -> o < 3 ? o + 1 : Check.NONE);
        e.limits("takes(i, 0) of none", SighGuild::new, (g, i) -> g.takes(i, 0), 0, -1, i -> 0);
    }

    private void bringsAlways() {
        SighGuild g = Check.guildOf("s90 a90 p90 o079 o030");
        e.due("too deep", g.brings(1, 0), 9);
        e.due("too deep for a POET", g.brings(2, 0), 8);
        g.sigh(0, 0);
        e.due("done", g.brings(0, 0), 9);
        e.due("too deep, done", g.brings(1, 0), 9);
        e.due("not by its BREATH", g.brings(0, 1), 0);
        e.due("by a POET, 0 at least", g.brings(2, 1), 0);
    }

    private void bringsBad() {
        e.limits("brings(i, 0) of one", ONE, (g, i) -> g.brings(i, 0), 0, 0, i -> 5);
        e.limits("brings(0, o) of one", ONE, (g, o) -> g.brings(0, o), 0, 0, o -> 5);
        int[] due = {2, 2, 2, 1, 4};
        e.limits("brings(i, 0) of five", MOST, (g, i) -> g.brings(i, 0), 0, 4, i -> due[i]);
        e.limits("brings(0, o) of six", MOST, (g, o) -> g.brings(0, o), 0, 5, o -> o + 2);
        e.limits("brings(i, 0) of none", SighGuild::new, (g, i) -> g.brings(i, 0), 0, -1, i -> 0);
    }
}
