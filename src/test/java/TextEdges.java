import java.util.function.Supplier;

/** The boundary cases of promises 8 to 11, and of the small language of the Terms. */
final class TextEdges {
    private static final int MIN = Integer.MIN_VALUE, MAX = Integer.MAX_VALUE;
    private static final Supplier<SighGuild> FOUR = Edge.anew(g -> {
        for (int t = 0; t < 4; t++) {
            Check.write(g, t, "s" + t + "0o01" + t);
        }
    });
    private final Edge e;

    private TextEdges(Edge e) {
        this.e = e;
    }

    static void all(Edge e) {
        TextEdges t = new TextEdges(e);
        e.says(8, "A TEXT is there with n blanks: n.", t::textAnew);
        e.says(8, "BAD: also n above 60", t::textBad);
        e.says(8, "SIZE: below 0.", t::textSize);
        e.says(9, "Byte i of a TEXT is v, cut to a byte: what it was, and 1000 more.", t::putCut);
        e.says(9, "BAD; NOTHING; BEYOND.", t::putRefused);
        e.says(10, "A FAULT of a TEXT; NONE: there is none.", t::faultOrNone);
        e.says(10, "BAD; NOTHING.", t::faultRefused);
        t.language();
        e.says(11, "A GUILD by a TEXT", t::guildByText);
        e.says(11, "(anew: all at PLACE 0, nothing done, no GOLD, no DEEDS; kept GUILDS go)", t::guildAnew);
        e.says(11, "how many ORDERS.", t::guildTellsOrders);
        e.says(11, "BAD; NOTHING; STATE: a FAULT. (STATE behind NOTHING.)", t::guildRefused);
    }

    private void language() {
        e.says(Edge.TERMS, "A GUILD (without SIGHERS, ORDERS at first) is a TEXT", this::noneAtFirst);
        e.says(Edge.TERMS, "blanks (32) ahead, between, behind as many as wanted", this::blanks);
        e.says(Edge.TERMS, "none within items", this::blanksWithin);
        e.says(Edge.TERMS, "First SIGHERS (1 to 5; 0, 1, .. as they come)", this::howManySighers);
        e.says(Edge.TERMS, "a letter, BREATH (0 .. 9), TUNE (0 .. 9), one figure each", this::sigherFigures);
        e.says(Edge.TERMS, "Then ORDERS (1 to 6; 0, 1, .. as they come)", this::howManyOrders);
        e.says(Edge.TERMS, "o (111), the PLACE of the house in the street (0 .. 9), DEPTH (1 .. 9), "
                + "what it BRINGS (0 .. 9), one figure each", this::orderFigures);
        e.says(Edge.TERMS, "A FAULT is the first place at which it can't go on so", this::firstPlace);
        e.says(Edge.TERMS, "a letter, a figure that is none such", this::everySign);
        e.says(Edge.TERMS, "an ORDER ahead of all SIGHERS", this::orderAhead);
        e.says(Edge.TERMS, "a SIGHER behind an ORDER", this::sigherBehind);
        e.says(Edge.TERMS, "a sixth SIGHER, a seventh ORDER: its place", this::oneTooMany);
        e.says(Edge.TERMS, "the TEXT's size, if its end comes too early", this::endsEarly);
        e.says(Edge.TERMS, "or there are blanks alone", this::blanksAlone);
        e.says(Edge.TERMS, "KINDS of SIGHERS and letters: 0 SIGHER (s, 115), 1 DEEP (d, 100; a SIGHER), "
                + "2 APPRENTICE (a, 97; a SIGHER), 3 FORGER (f, 102; a SIGHER), 4 MASTER (m, 109; a DEEP), 5 POET (p, 112; an APPRENTICE)", this::letters);
    }

    private void textAnew() {
        for (int n : new int[] {0, 1, 59, 60}) {
            SighGuild g = new SighGuild();
            e.due("text(2, " + n + ")", g.text(2, n), n);
            e.due("count(9)", g.count(9), 1);
            for (int i = 0; i < n; i++) {
                e.due("put(2, " + i + ", 7)", g.put(2, i, 7), 1032);
            }
            e.due("put(2, " + n + ", 7)", g.put(2, n, 7), Check.FINDING);
            e.due("text(2, 60) over another", g.text(2, 60), 60);
            for (int i = 0; i < 60; i++) {
                e.due("put(2, " + i + ", 8)", g.put(2, i, 8), 1032);
            }
        }
        SighGuild all = FOUR.get();
        e.due("count(9) of all", all.count(9), 4);
        e.due("text(1, 0) over another", all.text(1, 0), 0);
        e.due("count(9) of all, one empty", all.count(9), 4);
        e.due("put(0, 0, 32)", all.put(0, 0, 32), 1115);
        e.due("put(2, 0, 32)", all.put(2, 0, 32), 1115);
    }

    private void textBad() {
        e.limits("text(t, 3)", FOUR, (g, t) -> g.text(t, 3), 0, 3, t -> 3);
        e.limits("text(t, 3) of a new object", SighGuild::new, (g, t) -> g.text(t, 3), 0, 3, t -> 3);
        e.limits("text(1, n)", FOUR, (g, n) -> g.text(1, n), 0, 60, n -> n, Check.SIZE, Check.BAD);
        e.limits("text(3, n)", SighGuild::new, (g, n) -> g.text(3, n), 0, 60, n -> n, Check.SIZE, Check.BAD);
    }

    private void textSize() {
        for (int n : new int[] {-1, -60, -61, MIN}) {
            e.refused("text(0, " + n + ")", FOUR, Check.SIZE, g -> g.text(0, n));
            e.refused("text(3, " + n + ") of a new object", SighGuild::new, Check.SIZE, g -> g.text(3, n));
            e.refused("BAD ahead of SIZE: text(4, " + n + ")", FOUR, Check.BAD, g -> g.text(4, n));
            e.refused("BAD ahead of SIZE: text(-1, " + n + ")", FOUR, Check.BAD, g -> g.text(-1, n));
        }
    }

    private void putCut() {
        int[][] cuts = {{0, 0}, {1, 1}, {32, 32}, {126, 126}, {127, 127}, {128, -128}, {129, -127}, {255, -1}, {256, 0},
            {257, 1}, {383, 127}, {384, -128}, {-1, -1}, {-2, -2}, {-128, -128}, {-129, 127}, {-255, 1}, {-256, 0},
            {-257, -1}, {65536 + 65, 65}, {MAX, -1}, {MAX - 1, -2}, {MIN, 0}, {MIN + 1, 1}};
        for (int[] cut : cuts) {
            SighGuild g = new SighGuild();
            g.text(3, 60);
            e.due("put(3, 59, " + cut[0] + ")", g.put(3, 59, cut[0]), 1032);
            e.due("put(3, 59, 9) behind " + cut[0], g.put(3, 59, 9), 1000 + cut[1]);
            e.due("put(3, 58, 9)", g.put(3, 58, 9), 1032);
            e.due("put(3, 0, " + cut[0] + ")", g.put(3, 0, cut[0]), 1032);
            e.due("put(3, 1, 9)", g.put(3, 1, 9), 1032);
            e.due("asked()", g.asked(), 0);
        }
        SighGuild g = new SighGuild();
        Check.write(g, 0, "s90o019");
        g.put(0, 0, 115 + 256);
        e.due("fault(0) of a sign that is cut", g.fault(0), Check.NONE);
        g.put(0, 0, 115 - 256);
        e.due("fault(0) of a sign below 0 that is cut", g.fault(0), Check.NONE);
    }

    private void putRefused() {
        e.limits("put(t, 0, 1)", FOUR, (g, t) -> g.put(t, 0, 1), 0, 3, t -> 1115);
        for (int size : new int[] {0, 1, 7, 59, 60}) {
            Supplier<SighGuild> state = Edge.anew(g -> g.text(1, size));
            e.limits("put(1, i, 1) of " + size, state, (g, i) -> g.put(1, i, 1), 0, size - 1, i -> 1032,
                    Check.BEYOND, Check.BEYOND);
        }
        Supplier<SighGuild> shrunk = Edge.anew(g -> g.text(1, 60), g -> g.text(1, 2));
        e.limits("put(1, i, 1) of a lesser one", shrunk, (g, i) -> g.put(1, i, 1), 0, 1, i -> 1032,
                Check.BEYOND, Check.BEYOND);
        for (int i : new int[] {MIN, -1, 0, 60, MAX}) {
            e.refused("NOTHING ahead of BEYOND: put(0, " + i + ", 1)", SighGuild::new, Check.NOTHING,
                    g -> g.put(0, i, 1));
            e.refused("BAD ahead of all: put(4, " + i + ", 1)", FOUR, Check.BAD, g -> g.put(4, i, 1));
            e.refused("BAD ahead of all: put(-1, " + i + ", 1)", FOUR, Check.BAD, g -> g.put(-1, i, 1));
        }
    }

    /** The FAULT of a text, the guild() that goes with it, and that fault() changes nothing. */
    private void fault(String text, int want) {
        SighGuild g = new SighGuild();
        Check.write(g, 2, text);
        String before = Check.stateOf(g);
        String shown = text.length() < 30 ? text : text.substring(0, 30) + "..";
        e.due("fault of '" + shown + "'", g.fault(2), want);
        e.due("fault of '" + shown + "' changes nothing", before.equals(Check.stateOf(g)) ? 1 : 0, 1);
        long orders = text.chars().filter(s -> s == 'o').count();
        e.due("guild of '" + shown + "'", g.guild(2), want == Check.NONE ? orders : Check.STATE);
    }

    private void faultOrNone() {
        e.limits("fault(t) of none", FOUR, SighGuild::fault, 0, 3, t -> Check.NONE);
        fault("s00o010", Check.NONE);
        fault("x00o010", 0);
        fault("s00o01x", 6);
        fault("s00o01", 6);
        fault(" ".repeat(60), 60);
        SighGuild g = Edge.of("m45 o034", x -> Check.write(x, 1, "a11 f22 o111o222")).get();
        e.due("fault(1) beside a GUILD", g.fault(1), Check.NONE);
        e.due("count(0)", g.count(0), 1);
        e.due("count(1)", g.count(1), 1);
        e.told("sigher(0, 1)", g, g.sigher(0, 1), 4);
        e.told("order(0, 2)", g, g.order(0, 2), 4);
    }

    private void faultRefused() {
        for (int t = 0; t < 4; t++) {
            int text = t;
            e.refused("fault(" + t + ")", SighGuild::new, Check.NOTHING, g -> g.fault(text));
        }
        e.limits("BAD first: fault(t) of a new object", SighGuild::new, SighGuild::fault, 0, 3, t -> Check.FINDING);
        e.limits("fault(t) of FAULTS", Edge.anew(g -> {
            for (int t = 0; t < 4; t++) {
                g.text(t, t);
            }
        }), SighGuild::fault, 0, 3, t -> t);
    }

    private void noneAtFirst() {
        SighGuild g = FOUR.get();
        e.due("count(0)", g.count(0), 0);
        e.due("count(1)", g.count(1), 0);
        e.refused("sigher(0, 0)", FOUR, Check.BAD, x -> x.sigher(0, 0));
        e.refused("order(0, 0)", FOUR, Check.BAD, x -> x.order(0, 0));
    }

    private void blanks() {
        fault("s12o345", Check.NONE);
        fault(" s12o345", Check.NONE);
        fault("s12 o345", Check.NONE);
        fault("s12o345 ", Check.NONE);
        fault("   s12   d34   o345   o678   ", Check.NONE);
        fault(" ".repeat(53) + "s12o345", Check.NONE);
        fault("s12o345" + " ".repeat(53), Check.NONE);
        fault("s12" + " ".repeat(53) + "o345", Check.NONE);
        fault("s12o345" + " ".repeat(49) + "o345", Check.NONE);
        fault("s12" + " ".repeat(50) + "s12o345", Check.NONE);
        for (char other : new char[] {0, 9, 10, 31, 33, 160, 255}) {
            fault(other + "s12o345", 0);
            fault("s12" + other + "o345", 3);
            fault("s12o345" + other, 7);
            fault("s12o345" + " ".repeat(52) + other, 59);
        }
    }

    private void blanksWithin() {
        fault("s 12o345", 1);
        fault("s1 2o345", 2);
        fault("s12o 345", 4);
        fault("s12o3 45", 5);
        fault("s12o34 5", 6);
        fault("s ", 1);
        fault("s1 ", 2);
        fault("s12o ", 4);
        fault("s12o3 ", 5);
        fault("s12o34 ", 6);
        fault("s1" + " ".repeat(58), 2);
    }

    private static String many(String item, int n, String between) {
        StringBuilder all = new StringBuilder();
        for (int k = 0; k < n; k++) {
            all.append(item).append(between);
        }
        return all.toString();
    }

    private void howManySighers() {
        for (String between : new String[] {"", " "}) {
            int item = 3 + between.length();
            fault(many("s12", 0, between) + "o345", 0);
            for (int n = 1; n <= 5; n++) {
                fault(many("p12", n, between) + "o345", Check.NONE);
            }
            fault(many("p12", 6, between) + "o345", 5 * item);
            fault(many("p12", 7, between) + "o345", 5 * item);
        }
        SighGuild g = Check.guildOf("s10d21a32f43m54o111");
        for (int i = 0; i < 5; i++) {
            e.told("sigher(" + i + ", 1)", g, g.sigher(i, 1), i + 1);
            e.told("sigher(" + i + ", 2)", g, g.sigher(i, 2), i);
        }
        e.limits("sigher(i, 2) of one", Edge.of("s15o111"), (x, i) -> Edge.asks(x, x.sigher(i, 2)), 0, 0, i -> 5);
    }

    private void sigherFigures() {
        for (int v = 0; v <= 9; v++) {
            SighGuild g = Check.guildOf("d" + v + (9 - v) + "o111");
            e.told("BREATH " + v, g, g.sigher(0, 1), v);
            e.told("TUNE " + (9 - v), g, g.sigher(0, 2), 9 - v);
        }
        for (char no : new char[] {'/', ':'}) {
            fault("s" + no + "1o111", 1);
            fault("s1" + no + "o111", 2);
        }
        fault("s123o111", 3);
        fault("s1o111", 2);
        fault("so111", 1);
        fault("s-1o111", 1);
        fault("s+11o111", 1);
    }

    private void howManyOrders() {
        for (String between : new String[] {"", " "}) {
            int item = 4 + between.length();
            fault("s12" + between, 3 + between.length());
            for (int n = 1; n <= 6; n++) {
                fault("s12" + many("o345", n, between), Check.NONE);
            }
            fault("s12" + many("o345", 7, between), 3 + 6 * item);
            fault("s12" + many("o345", 8, between), 3 + 6 * item);
        }
        fault(many("s12", 5, " ") + many("o345", 6, " "), Check.NONE);
        fault(many("s12", 5, " ") + many("o345", 6, " ") + "         o", 59);
        SighGuild g = Check.guildOf("s10o012o123o234o345o456o567");
        for (int o = 0; o < 6; o++) {
            e.told("order(" + o + ", 0)", g, g.order(o, 0), o);
            e.told("order(" + o + ", 1)", g, g.order(o, 1), o + 1);
            e.told("order(" + o + ", 2)", g, g.order(o, 2), o + 2);
        }
    }

    private void orderFigures() {
        for (int v = 0; v <= 9; v++) {
            int depth = Math.max(1, v);
            SighGuild g = Check.guildOf("d11o" + v + depth + (9 - v));
            e.told("PLACE " + v, g, g.order(0, 0), v);
            e.told("DEPTH " + depth, g, g.order(0, 1), depth);
            e.told("BRINGS " + (9 - v), g, g.order(0, 2), 9 - v);
        }
        fault("s11o101", 5);
        fault("s11o000", 5);
        fault("s11o010", Check.NONE);
        fault("s11o990", Check.NONE);
        for (char no : new char[] {'/', ':'}) {
            fault("s11o" + no + "11", 4);
            fault("s11o1" + no + "1", 5);
            fault("s11o11" + no, 6);
        }
        fault("s11o1111", 7);
        fault("s11O111", 3);
        fault("s11n111", 3);
        fault("s110111", 3);
    }

    private void firstPlace() {
        fault("sxxoxxx", 1);
        fault("s1xoxxx", 2);
        fault("s11oxxx", 4);
        fault("s11o0x0", 5);
        fault("s11o00", 5);
        fault("s11o111x o", 7);
        fault("s11 o111 o000 x", 11);
        fault("xs11o111", 0);
        fault("s11xo111", 3);
        fault("s11ss1o111", 4);
        fault("s11oo111", 4);
    }

    /** A text with each of all 256 signs in a place: right ones, others that go on to a later FAULT, a FAULT there. */
    private void signs(String text, int at, String right, String others, int later) {
        for (char sign = 0; sign < 256; sign++) {
            int want = right.indexOf(sign) >= 0 ? Check.NONE : others.indexOf(sign) >= 0 ? later : at;
            SighGuild g = new SighGuild();
            Check.write(g, 0, text.substring(0, at) + sign + text.substring(at + 1));
            e.due("fault with sign " + (int) sign + " at " + at + " of " + text, g.fault(0), want);
        }
    }

    private void everySign() {
        String figures = "0123456789";
        signs("s11o111", 0, "sdafmp", " ", 1);
        signs("s11o111", 1, figures, "", 0);
        signs("s11o111", 2, figures, "", 0);
        signs("s11o111", 4, figures, "", 0);
        signs("s11o111", 5, "123456789", "", 0);
        signs("s11o111", 6, figures, "", 0);
        signs("s11x", 3, "", " sdafmpo", 4);
        signs("s11s11s11s11s11x", 15, "", " o", 16);
        signs("s11o111x", 7, " ", "o", 8);
        signs("s11o111o111o111o111o111x", 23, " ", "o", 24);
        signs("s11o111o111o111o111o111o111x", 27, " ", "", 0);
    }

    private void orderAhead() {
        fault("o", 0);
        fault("o111", 0);
        fault("o111s11", 0);
        fault("   o111s11o111", 3);
        fault(" ".repeat(59) + "o", 59);
    }

    private void sigherBehind() {
        for (char letter : "sdafmp".toCharArray()) {
            fault("s11o111" + letter + "11", 7);
            fault("s11o111 " + letter, 8);
            fault("s11o111" + letter + "11o111", 7);
        }
        fault("s11s11o111 s11 o111", 11);
    }

    private void oneTooMany() {
        for (char letter : "sdafmp".toCharArray()) {
            fault(many("s11", 5, "") + letter + "11o111", 15);
            fault(many("s11", 5, "") + letter, 15);
            fault(many("s11", 5, " ") + " " + letter + "xx", 21);
        }
        fault("s11" + many("o111", 6, "") + "o111", 27);
        fault("s11" + many("o111", 6, "") + "o", 27);
        fault("s11" + many("o111", 6, " ") + "   oxx", 36);
        fault("s11" + many("o111", 6, "") + "s11", 27);
    }

    private void endsEarly() {
        String whole = " s11 d22o111 o222  ";
        for (int n = 0; n <= whole.length(); n++) {
            boolean isWhole = n == 12 || n == 13 || n >= 17;
            fault(whole.substring(0, n), isWhole ? Check.NONE : n);
        }
        fault(" ".repeat(54) + "s11o11", 60);
        fault(" ".repeat(55) + "s11o1", 60);
        fault(" ".repeat(57) + "s11", 60);
        fault(" ".repeat(59) + "s", 60);
        fault("s11" + " ".repeat(57), 60);
    }

    private void blanksAlone() {
        for (int n = 0; n <= 60; n++) {
            fault(" ".repeat(n), n);
        }
    }

    private void letters() {
        String letters = "sdafmp";
        int[] numbers = {115, 100, 97, 102, 109, 112};
        int[] up = {-1, 0, 0, 0, 1, 2};
        for (int kind = 0; kind < 6; kind++) {
            e.due("letter of KIND " + kind, letters.charAt(kind), numbers[kind]);
            SighGuild g = Check.guildOf((char) numbers[kind] + "00o010");
            e.told("sigher(0, 0)", g, g.sigher(0, 0), kind);
            for (int as = 1; as <= 5; as++) {
                boolean is = as == kind || as == up[kind];
                e.due("KIND " + kind + " as " + as, g.mark(0, as) == Check.FINDING ? 0 : 1, is ? 1 : 0);
            }
            e.due("count(6)", g.count(6), kind == 1 || kind == 4 ? 1 : 0);
            e.due("count(7)", g.count(7), kind == 2 || kind == 5 ? 1 : 0);
        }
        for (char no : new char[] {'r', 't', 'c', 'e', '`', 'b', 'g', 'l', 'n', 'q', 'S', 'D', 'A', 'F', 'M', 'P'}) {
            fault(no + "00o010", 0);
        }
    }

    private void guildByText() {
        String[] texts = {"d41 o935", "a32f43 o113", " m05 o212 o321", "p99s10d11o444o555o666"};
        int[][] sighers = {{1, 4, 1}, {2, 3, 2}, {4, 0, 5}, {5, 9, 9}};
        int[][] orders = {{9, 3, 5}, {1, 1, 3}, {2, 1, 2}, {4, 4, 4}};
        int[] manyOrders = {1, 1, 2, 3};
        SighGuild g = new SighGuild();
        for (int t = 0; t < 4; t++) {
            Check.write(g, t, texts[t]);
        }
        for (int t : new int[] {2, 0, 3, 1, 1}) {
            e.due("guild(" + t + ")", g.guild(t), manyOrders[t]);
            for (int what = 0; what < 3; what++) {
                e.told("its SIGHER, " + what, g, g.sigher(0, what), sighers[t][what]);
                e.told("its ORDER, " + what, g, g.order(0, what), orders[t][what]);
            }
            for (int k = 0; k < texts[t].length(); k++) {
                e.due("the TEXT stays, " + k, g.put(t, k, texts[t].charAt(k)), 1000 + texts[t].charAt(k));
            }
        }
        Check.write(g, 1, texts[3]);
        e.told("the GUILD stays, if its TEXT is another one: the KIND", g, g.sigher(0, 0), 2);
        e.due("its SIGHERS", g.count(0), 2);
        e.due("till it is made anew", g.guild(1), 3);
        e.told("the KIND then", g, g.sigher(0, 0), 5);
    }

    private void guildAnew() {
        SighGuild g = Check.guildOf("f45 d91 o034 o234");
        String first = Check.stateOf(g);
        g.sigh(0, 0);
        g.walk(1, 9);
        g.walk(0, 2);
        g.sigh(0, 1);
        for (int k = 0; k < 3; k++) {
            g.keep(k);
        }
        e.due("count(10)", g.count(10), 3);
        e.due("guild(0) by the same TEXT", g.guild(0), 2);
        e.due("as at first", first.equals(Check.stateOf(g)) ? 1 : 0, 1);
        for (int what = 2; what <= 4; what++) {
            e.due("count(" + what + ")", g.count(what), 0);
        }
        e.due("count(10)", g.count(10), 0);
        for (int k = 0; k < 3; k++) {
            e.due("on(" + k + ")", g.on(k), Check.FINDING);
            e.due("finding()", g.finding(), Check.NOTHING);
        }
        e.due("undo(0)", g.undo(0), 0);
        for (int i = 0; i < 2; i++) {
            e.told("the PLACE", g, g.sigher(i, 3), 0);
            e.told("not done", g, g.order(i, 3), 0);
        }
        Check.write(g, 0, "x");
        e.told("the TEXT may change then: BREATH", g, g.sigher(1, 1), 9);
        e.due("ORDERS", g.count(1), 2);
    }

    private void guildTellsOrders() {
        for (int n = 1; n <= 6; n++) {
            SighGuild g = new SighGuild();
            Check.write(g, 3, "s11" + many("o111", n, " "));
            e.due("guild(3) of " + n, g.guild(3), n);
            e.due("count(1)", g.count(1), n);
        }
        SighGuild g = Check.guildOf(many("s11", 5, "") + many("o111", 6, ""));
        Check.write(g, 1, "d20o123");
        e.due("a lesser GUILD", g.guild(1), 1);
        e.due("SIGHERS", g.count(0), 1);
        e.due("BREATH", g.count(5), 2);
        e.due("a SIGHER that was", g.sigher(1, 0), Check.BAD);
        e.due("an ORDER that was", g.order(1, 0), Check.BAD);
    }

    private void guildRefused() {
        e.limits("guild(t)", FOUR, SighGuild::guild, 0, 3, t -> 1);
        e.limits("BAD first: guild(t) of a new object", SighGuild::new, SighGuild::guild, 0, 3, t -> Check.FINDING);
        Supplier<SighGuild> busy = Edge.of("f45 o034 o234", g -> g.sigh(0, 0), g -> g.keep(1), g -> g.walk(0, 2),
                g -> g.keep(0), g -> g.text(1, 0), g -> Check.write(g, 2, "a11o111 a11"));
        e.refused("guild(3), missing", busy, Check.NOTHING, g -> g.guild(3));
        e.refused("guild(1), empty", busy, Check.STATE, g -> g.guild(1));
        e.refused("guild(2), a FAULT behind a whole GUILD", busy, Check.STATE, g -> g.guild(2));
        e.refused("guild(4)", busy, Check.BAD, g -> g.guild(4));
        e.refused("guild(-1)", busy, Check.BAD, g -> g.guild(-1));
        e.refused("guild(0) of a FAULT, first of all", Edge.anew(g -> g.text(0, 60)), Check.STATE, g -> g.guild(0));
    }
}
