import java.util.LinkedHashMap;
import java.util.Map;
import java.util.function.Supplier;

/** What the Terms say of refusals, FINDINGS, ROWS, TEXTS and sets; every refusal there is, on a GUILD in full swing. */
final class TermEdges {
    private static final int BAD = Check.BAD, STATE = Check.STATE, SPENT = Check.SPENT, FULL = Check.FULL;
    private static final int NOTHING = Check.NOTHING, BEYOND = Check.BEYOND, UNLIKE = Check.UNLIKE,
            NOUGHT = Check.NOUGHT, SIZE = Check.SIZE;
    /** ROW 1 is empty, 4 missing, 5 no pairs; TEXT 1 empty, 2 with a FAULT, 3 missing; place 1 has no kept GUILD. */
    private static final Supplier<SighGuild> BUSY = Edge.of(SighersTest.FIVE, TermEdges::rows, TermEdges::deeds,
            TermEdges::findings);
    private final Edge e;
    private Supplier<SighGuild> state = BUSY;

    private TermEdges(Edge e) {
        this.e = e;
    }

    private static void rows(SighGuild g) {
        Check.lay(g, 0, 3, 1, 4, 1, 5);
        g.row(1, 0);
        g.row(2, 40);
        Check.lay(g, 3, 0, 1, 2, 3);
        Check.lay(g, 5, 0, 10);
        g.text(1, 0);
        Check.write(g, 2, "x");
    }

    /** ORDERS 0 and 5 are done, 7 GOLD, 6 DEEDS; SIGHER 0 is at PLACE 2, 2 at 5, 3 at 9. */
    private static void deeds(SighGuild g) {
        g.walk(0, 2);
        g.sigh(0, 0);
        g.rest(4);
        g.keep(0);
        g.walk(2, 5);
        g.sigh(2, 5);
        g.keep(2);
        g.walk(3, 9);
    }

    private static void findings(SighGuild g) {
        g.at(4, 0);
        g.at(1, 0);
        g.mean(1);
        g.row(0, -1);
        g.mark(0, 2);
        g.at(0, 4);
        g.odds(1, 4);
    }

    static void all(Edge e) {
        TermEdges t = new TermEdges(e);
        e.says(Edge.HEAD, "An object is used for at most 512 calls after it has been made; what later calls answer "
                + "is free.", t::lastCall);
        e.says(Edge.TERMS, "Refused is, the first of these that fits, in this order: BAD -1 (a number that is none, "
                + "or not as told), FULL -2, STATE -4 (not now), SPENT -6 (more than told), FINDING -3 (finding() tells "
                + "which), unless a call says so otherwise.", t::order);
        e.says(Edge.TERMS, "NONE -9.", t::none);
        e.says(Edge.TERMS, "What is refused changes nothing but finding(), findings().", t::changesNothing);
        e.says(Edge.TERMS, "FINDINGS: 1 NOTHING (a ROW, a TEXT, a kept GUILD that is missing)", t::nothing);
        e.says(Edge.TERMS, "2 BEYOND (a place of a ROW, a TEXT that there is not)", t::beyond);
        e.says(Edge.TERMS, "3 UNLIKE (a SIGHER of another KIND; a number that is none)", t::unlike);
        e.says(Edge.TERMS, "4 NOUGHT (shared among none)", t::nought);
        e.says(Edge.TERMS, "5 SIZE (fewer than none; too many, not as many as due)", t::size);
        e.says(Edge.TERMS, "Sets (of SIGHERS, of ORDERS, of KINDS, of BREATHS) are told by bits.", t::bits);
        e.says(Edge.TERMS, "======== 1 ROWS 0 .. 5 are rows of 0 to 40 ints, TEXTS 0 .. 3 rows of 0 to 60 bytes, "
                + "or missing (at first).", t::rowsAndTexts);
    }

    private void no(String call, int answer, Edge.Call refused) {
        e.refused(call, state, answer, refused);
    }

    /** The 512th call is as good as the first; those behind it may answer anything, but do end. */
    private void lastCall() {
        SighGuild bad = new SighGuild();
        for (int k = 1; k <= 510; k++) {
            bad.at(0, 0);
        }
        e.due("call 511", bad.at(0, 0), Check.FINDING);
        e.due("call 512", bad.findings(NOTHING), 511);
        String text = "s00o319";
        SighGuild busy = Check.guildOf(text);
        int used = 1 + text.length() + 1;
        while (used < 511) {
            busy.walk(0, 3);
            busy.undo(0);
            used += 2;
        }
        e.due("calls ahead of the last", used, 511);
        e.due("call 512", busy.walk(0, 9), 9);
        for (int k = 0; k < 100; k++) {
            busy.lots(20, 7);
            busy.undo(0);
            busy.digest();
        }
    }

    private void order() {
        e.due("BAD", SighGuild.BAD, -1);
        e.due("FULL", SighGuild.FULL, -2);
        e.due("STATE", SighGuild.STATE, -4);
        e.due("SPENT", SighGuild.SPENT, -6);
        e.due("FINDING", SighGuild.FINDING, -3);
        state = SighGuild::new;
        no("BAD ahead of STATE: keep(3)", BAD, g -> g.keep(3));
        no("BAD ahead of STATE: give(6)", BAD, g -> g.give(6));
        no("BAD ahead of STATE: most(-1)", BAD, g -> g.most(-1));
        no("BAD ahead of STATE: choir(10)", BAD, g -> g.choir(10));
        no("BAD ahead of STATE: strike(3)", BAD, g -> g.strike(3));
        no("BAD ahead of STATE: odds(67, 0)", BAD, g -> g.odds(67, 0));
        no("BAD ahead of STATE: mid(13)", BAD, g -> g.mid(13));
        no("BAD ahead of STATE: lots(0, 1)", BAD, g -> g.lots(0, 1));
        no("BAD ahead of FINDING: row(6, -1)", BAD, g -> g.row(6, -1));
        no("BAD ahead of FINDING: text(4, -1)", BAD, g -> g.text(4, -1));
        no("BAD ahead of FINDING: at(6, 0)", BAD, g -> g.at(6, 0));
        no("BAD ahead of FINDING: put(4, 0, 0)", BAD, g -> g.put(4, 0, 0));
        no("BAD ahead of FINDING: guild(4)", BAD, g -> g.guild(4));
        no("BAD ahead of FINDING: on(3)", BAD, g -> g.on(3));
        no("BAD ahead of FINDING: kinds(0, 0)", BAD, g -> g.kinds(0, 0));
        state = DeedEdges.walked("s30 s90 a90 o031 o041 o131", 40);
        no("BAD ahead of FULL: walk(0, 10)", BAD, g -> g.walk(0, 10));
        no("BAD ahead of FULL: sigh(0, 3)", BAD, g -> g.sigh(0, 3));
        no("BAD ahead of FULL: rest(3)", BAD, g -> g.rest(3));
        no("BAD ahead of FULL: lots(21, 1)", BAD, g -> g.lots(21, 1));
        no("otherwise, FULL last: walk(0, 0)", STATE, g -> g.walk(0, 0));
        no("otherwise, FULL last: sigh(0, 2)", STATE, g -> g.sigh(0, 2));
        no("otherwise, FULL last: sigh(0, 1)", SPENT, g -> g.sigh(0, 1));
        no("otherwise, FULL last: rest(1)", STATE, g -> g.rest(1));
        no("FULL: walk(0, 1)", FULL, g -> g.walk(0, 1));
        no("FULL: sigh(0, 0)", FULL, g -> g.sigh(0, 0));
        no("FULL: rest(0)", FULL, g -> g.rest(0));
        no("FULL: lots(1, 1)", FULL, g -> g.lots(1, 1));
        state = BUSY;
        no("STATE ahead of SPENT: sigh(4, 1)", STATE, g -> g.sigh(4, 1));
        no("otherwise, STATE behind NOTHING: guild(3)", NOTHING, g -> g.guild(3));
        no("BAD ahead of UNLIKE: mark(5, 2)", BAD, g -> g.mark(5, 2));
        no("BAD ahead of UNLIKE: kinds(5, 5)", BAD, g -> g.kinds(5, 5));
    }

    private void none() {
        e.due("NONE", SighGuild.NONE, -9);
        Supplier<SighGuild> guild = Edge.of("a00 s00 o049 o039");
        Map<String, Edge.Call> none = new LinkedHashMap<>();
        none.put("fault(0)", g -> g.fault(0));
        none.put("takes(0, 0)", g -> g.takes(0, 0));
        none.put("hours(0, 1)", g -> g.hours(0, 1));
        none.put("hours(0, 2)", g -> g.hours(0, 2));
        none.forEach((call, by) -> {
            SighGuild g = guild.get();
            e.due(call, by.by(g), Check.NONE);
            e.due(call + " is no refusal: finding()", g.finding(), 0);
            e.due(call + " changes nothing", g.digest(), guild.get().digest());
        });
    }

    /** All calls of the face that can be refused, each in every way, one after the other as the document tells them. */
    private void changesNothing() {
        state = BUSY;
        rowsRefused();
        textsRefused();
        guildRefused();
        deedsRefused();
        searchesRefused();
        pairsRefused();
        chancesRefused();
        stateRefused();
    }

    private void rowsRefused() {
        for (int r : new int[] {-1, 6}) {
            no("row(" + r + ", 1)", BAD, g -> g.row(r, 1));
            no("lay(" + r + ", 0, 1)", BAD, g -> g.lay(r, 0, 1));
            no("at(" + r + ", 0)", BAD, g -> g.at(r, 0));
            no("tear(" + r + ")", BAD, g -> g.tear(r));
            no("copy(" + r + ", 0, 0, 0, 1)", BAD, g -> g.copy(r, 0, 0, 0, 1));
            no("copy(0, 0, " + r + ", 0, 1)", BAD, g -> g.copy(0, 0, r, 0, 1));
            no("mean(" + r + ")", BAD, g -> g.mean(r));
        }
        no("row(0, 41)", BAD, g -> g.row(0, 41));
        no("row(4, 41)", BAD, g -> g.row(4, 41));
        no("row(0, -1)", SIZE, g -> g.row(0, -1));
        no("row(4, -1)", SIZE, g -> g.row(4, -1));
        no("lay(4, 0, 1)", NOTHING, g -> g.lay(4, 0, 1));
        no("lay(0, 5, 1)", BEYOND, g -> g.lay(0, 5, 1));
        no("lay(0, -1, 1)", BEYOND, g -> g.lay(0, -1, 1));
        no("lay(2, 40, 1)", BEYOND, g -> g.lay(2, 40, 1));
        no("at(4, 0)", NOTHING, g -> g.at(4, 0));
        no("at(0, 5)", BEYOND, g -> g.at(0, 5));
        no("tear(4)", NOTHING, g -> g.tear(4));
        no("copy(0, 0, 2, 0, -1)", SIZE, g -> g.copy(0, 0, 2, 0, -1));
        no("copy(4, 0, 2, 0, 1)", NOTHING, g -> g.copy(4, 0, 2, 0, 1));
        no("copy(0, 0, 4, 0, 1)", NOTHING, g -> g.copy(0, 0, 4, 0, 1));
        no("copy(0, 1, 2, 0, 5)", BEYOND, g -> g.copy(0, 1, 2, 0, 5));
        no("copy(0, 0, 2, 36, 5)", BEYOND, g -> g.copy(0, 0, 2, 36, 5));
        no("copy(0, 0, 0, 1, 5)", BEYOND, g -> g.copy(0, 0, 0, 1, 5));
        no("mean(4)", NOTHING, g -> g.mean(4));
        no("mean(1)", NOUGHT, g -> g.mean(1));
    }

    private void textsRefused() {
        for (int t : new int[] {-1, 4}) {
            no("text(" + t + ", 1)", BAD, g -> g.text(t, 1));
            no("put(" + t + ", 0, 1)", BAD, g -> g.put(t, 0, 1));
            no("fault(" + t + ")", BAD, g -> g.fault(t));
            no("guild(" + t + ")", BAD, g -> g.guild(t));
        }
        no("text(0, 61)", BAD, g -> g.text(0, 61));
        no("text(0, -1)", SIZE, g -> g.text(0, -1));
        no("text(3, -1)", SIZE, g -> g.text(3, -1));
        no("put(3, 0, 1)", NOTHING, g -> g.put(3, 0, 1));
        no("put(1, 0, 1)", BEYOND, g -> g.put(1, 0, 1));
        no("put(2, 1, 1)", BEYOND, g -> g.put(2, 1, 1));
        no("put(0, -1, 1)", BEYOND, g -> g.put(0, -1, 1));
        no("fault(3)", NOTHING, g -> g.fault(3));
        no("guild(3)", NOTHING, g -> g.guild(3));
        no("guild(1)", STATE, g -> g.guild(1));
        no("guild(2)", STATE, g -> g.guild(2));
    }

    private void guildRefused() {
        for (int w : new int[] {-1, 5}) {
            no("sigher(" + w + ", 0)", BAD, g -> g.sigher(w, 0));
            no("sigher(0, " + w + ")", BAD, g -> g.sigher(0, w));
            no("order(0, " + w + ")", BAD, g -> g.order(0, w));
            no("mark(" + w + ", 1)", BAD, g -> g.mark(w, 1));
            no("takes(" + w + ", 0)", BAD, g -> g.takes(w, 0));
            no("brings(" + w + ", 0)", BAD, g -> g.brings(w, 0));
        }
        for (int o : new int[] {-1, 6}) {
            no("order(" + o + ", 0)", BAD, g -> g.order(o, 0));
            no("takes(0, " + o + ")", BAD, g -> g.takes(0, o));
            no("brings(0, " + o + ")", BAD, g -> g.brings(0, o));
            no("mark(0, " + o + ")", BAD, g -> g.mark(0, o));
        }
        no("mark(0, 0)", BAD, g -> g.mark(0, 0));
        no("mark(0, 2)", UNLIKE, g -> g.mark(0, 2));
        no("mark(0, 4)", UNLIKE, g -> g.mark(0, 4));
        no("mark(4, 5)", UNLIKE, g -> g.mark(4, 5));
    }

    private void deedsRefused() {
        for (int i : new int[] {-1, 5}) {
            no("walk(" + i + ", 1)", BAD, g -> g.walk(i, 1));
            no("sigh(" + i + ", 0)", BAD, g -> g.sigh(i, 0));
            no("rest(" + i + ")", BAD, g -> g.rest(i));
        }
        no("walk(0, 10)", BAD, g -> g.walk(0, 10));
        no("walk(0, -1)", BAD, g -> g.walk(0, -1));
        no("walk(0, 2), there", STATE, g -> g.walk(0, 2));
        no("sigh(0, 6)", BAD, g -> g.sigh(0, 6));
        no("sigh(0, 0), done", STATE, g -> g.sigh(0, 0));
        no("sigh(0, 1), elsewhere", STATE, g -> g.sigh(0, 1));
        no("sigh(4, 3), not so much BREATH", SPENT, g -> g.sigh(4, 3));
        state = Edge.of("a90 o049", g -> g.keep(1), g -> g.walk(0, 1), g -> g.walk(0, 0));
        no("sigh(0, 0), too deep", STATE, g -> g.sigh(0, 0));
        no("rest(0), 9", STATE, g -> g.rest(0));
        state = BUSY;
        no("undo(-1)", BAD, g -> g.undo(-1));
        no("undo(7)", BAD, g -> g.undo(7));
        no("undo(41)", BAD, g -> g.undo(41));
        no("keep(3)", BAD, g -> g.keep(3));
        no("keep(-1)", BAD, g -> g.keep(-1));
        no("on(3)", BAD, g -> g.on(3));
        no("on(-1)", BAD, g -> g.on(-1));
        no("on(1)", NOTHING, g -> g.on(1));
        state = DeedEdges.walked("s30 s90 o031 o041", 40);
        no("walk(0, 9), full", FULL, g -> g.walk(0, 9));
        no("sigh(0, 0), full", FULL, g -> g.sigh(0, 0));
        no("rest(0), full", FULL, g -> g.rest(0));
        no("lots(1, 1), full", FULL, g -> g.lots(1, 1));
        state = DeedEdges.walked("s30 s90 o031 o041", 21);
        no("lots(20, 1), full", FULL, g -> g.lots(20, 1));
        state = BUSY;
    }

    private void searchesRefused() {
        for (int r : new int[] {-1, 6}) {
            no("give(" + r + ")", BAD, g -> g.give(r));
            no("most(" + r + ")", BAD, g -> g.most(r));
            no("dusk(0, 1, " + r + ")", BAD, g -> g.dusk(0, 1, r));
        }
        for (int i : new int[] {-1, 5}) {
            no("way(" + i + ", 0)", BAD, g -> g.way(i, 0));
            no("dusk(" + i + ", 1, 0)", BAD, g -> g.dusk(i, 1, 0));
            no("hours(" + i + ", 0)", BAD, g -> g.hours(i, 0));
        }
        for (int set : new int[] {-1, 64}) {
            no("way(0, " + set + ")", BAD, g -> g.way(0, set));
            no("hours(0, " + set + ")", BAD, g -> g.hours(0, set));
        }
        no("dusk(0, 31, 0)", BAD, g -> g.dusk(0, 31, 0));
        no("dusk(0, -1, 0)", BAD, g -> g.dusk(0, -1, 0));
        for (int t : new int[] {-1, 10}) {
            no("pairs(" + t + ")", BAD, g -> g.pairs(t));
            no("choir(" + t + ")", BAD, g -> g.choir(t));
            no("loose(" + t + ", 1, 0)", BAD, g -> g.loose(t, 1, 0));
            no("loose(0, " + t + ", 0)", BAD, g -> g.loose(0, t, 0));
        }
        no("loose(0, 0, 0)", BAD, g -> g.loose(0, 0, 0));
        no("loose(0, 1, -1)", BAD, g -> g.loose(0, 1, -1));
        no("loose(0, 1, 21)", BAD, g -> g.loose(0, 1, 21));
    }

    private void pairsRefused() {
        for (int r : new int[] {-1, 6}) {
            no("who(" + r + ")", BAD, g -> g.who(r));
            no("kinds(0, " + r + ")", BAD, g -> g.kinds(0, r));
            no("breaths(0, " + r + ")", BAD, g -> g.breaths(0, r));
        }
        for (int i : new int[] {-1, 5}) {
            no("kinds(" + i + ", 3)", BAD, g -> g.kinds(i, 3));
            no("breaths(" + i + ", 3)", BAD, g -> g.breaths(i, 3));
        }
        int[][] found = {{4, NOTHING}, {0, SIZE}, {2, SIZE}, {5, UNLIKE}};
        for (int[] f : found) {
            no("who(" + f[0] + ")", f[1], g -> g.who(f[0]));
            no("kinds(0, " + f[0] + ")", f[1], g -> g.kinds(0, f[0]));
            no("breaths(0, " + f[0] + ")", f[1], g -> g.breaths(0, f[0]));
        }
    }

    private void chancesRefused() {
        no("strike(-1)", BAD, g -> g.strike(-1));
        no("strike(3)", BAD, g -> g.strike(3));
        no("odds(-1, 0)", BAD, g -> g.odds(-1, 0));
        no("odds(67, 0)", BAD, g -> g.odds(67, 0));
        for (int p : new int[] {-1, 13}) {
            no("odds(0, " + p + ")", BAD, g -> g.odds(0, p));
            no("mid(" + p + ")", BAD, g -> g.mid(p));
        }
        no("lots(0, 1)", BAD, g -> g.lots(0, 1));
        no("lots(21, 1)", BAD, g -> g.lots(21, 1));
        no("lots(1, 0)", BAD, g -> g.lots(1, 0));
        no("lots(1, -1)", BAD, g -> g.lots(1, -1));
        no("lots(1, 2147483647)", BAD, g -> g.lots(1, Integer.MAX_VALUE));
        no("count(-1)", BAD, g -> g.count(-1));
        no("count(11)", BAD, g -> g.count(11));
        no("findings(0)", BAD, g -> g.findings(0));
        no("findings(6)", BAD, g -> g.findings(6));
    }

    private void stateRefused() {
        state = Edge.anew(TermEdges::rows);
        no("keep(0)", STATE, g -> g.keep(0));
        no("give(0)", STATE, g -> g.give(0));
        no("give(4)", STATE, g -> g.give(4));
        no("most(0)", STATE, g -> g.most(0));
        no("most(4)", STATE, g -> g.most(4));
        no("plain()", STATE, SighGuild::plain);
        no("choir(0)", STATE, g -> g.choir(0));
        no("strike(0)", STATE, g -> g.strike(0));
        no("odds(0, 0)", STATE, g -> g.odds(0, 0));
        no("mid(0)", STATE, g -> g.mid(0));
        no("lots(1, 1)", STATE, g -> g.lots(1, 1));
        state = BUSY;
    }

    private void nothing() {
        state = BUSY;
        no("a ROW", NOTHING, g -> g.at(4, 0));
        no("a TEXT", NOTHING, g -> g.fault(3));
        no("a kept GUILD", NOTHING, g -> g.on(1));
    }

    private void beyond() {
        no("of a ROW", BEYOND, g -> g.at(0, 5));
        no("of an empty ROW", BEYOND, g -> g.at(1, 0));
        no("of a full ROW", BEYOND, g -> g.at(2, 40));
        no("of a TEXT", BEYOND, g -> g.put(2, 1, 0));
        no("of an empty TEXT", BEYOND, g -> g.put(1, 0, 0));
    }

    private void unlike() {
        no("a SIGHER of another KIND", UNLIKE, g -> g.mark(0, 3));
        no("a number that is none", UNLIKE, g -> g.who(5));
    }

    private void nought() {
        no("mean(1)", NOUGHT, g -> g.mean(1));
    }

    private void size() {
        no("fewer than none: row", SIZE, g -> g.row(4, -1));
        no("fewer than none: text", SIZE, g -> g.text(3, -1));
        no("fewer than none: copy", SIZE, g -> g.copy(0, 0, 0, 0, -1));
        no("too many pairs", SIZE, g -> g.who(2));
        no("not as many as due", SIZE, g -> g.who(0));
    }

    private void bits() {
        SighGuild g = Check.guildOf("s15 d15 f09 o010 o210 o410 o090");
        e.told("of ORDERS, by a SIGHER", g, g.sigher(0, 4), 0b0111);
        e.told("of SIGHERS, by an ORDER", g, g.order(3, 4), 0b100);
        g.sigh(2, 3);
        e.due("of ORDERS done", g.count(4), 0b1000);
        e.due("of ORDERS touched", g.loose(1, 4, 20), 0b0110);
        e.due("of SIGHERS in a choir", g.choir(0), 2);
        e.due("of SIGHERS in a choir", g.asked(), 0b011);
        Check.lay(g, 0, 3, 4);
        e.due("of KINDS", g.kinds(0, 0), 0);
        Check.lay(g, 0, 0, 1);
        e.due("of KINDS", g.kinds(0, 0), 0b110111);
        e.due("of SIGHERS", g.who(0), 0b011);
        e.due("of BREATHS", g.breaths(0, 0), 0b1111111110);
        e.due("a set of ORDERS taken", g.way(0, 0b0100), 4);
        e.due("a set of ORDERS taken", g.hours(2, 0b1110), 6);
    }

    private void rowsAndTexts() {
        for (int r = 0; r < 6; r++) {
            int row = r;
            e.refused("ROW " + r + " at first", SighGuild::new, NOTHING, g -> g.at(row, 0));
            e.limits("ints of ROW " + r, SighGuild::new, (g, n) -> g.row(row, n), 0, 40, n -> n, SIZE, BAD);
        }
        for (int t = 0; t < 4; t++) {
            int text = t;
            e.refused("TEXT " + t + " at first", SighGuild::new, NOTHING, g -> g.put(text, 0, 0));
            e.limits("bytes of TEXT " + t, SighGuild::new, (g, n) -> g.text(text, n), 0, 60, n -> n, SIZE, BAD);
        }
        SighGuild all = new SighGuild();
        for (int k = 0; k < 6; k++) {
            all.row(k, 40);
            all.text(k, 60);
        }
        for (int k = 0; k < 6; k++) {
            e.told("the last place of ROW " + k, all, all.lay(k, 39, k + 1), 0);
            e.due("the last byte of TEXT " + k, all.put(k, 59, k + 1), k < 4 ? 1032 : BAD);
        }
        for (int k = 0; k < 6; k++) {
            e.told("ROW " + k + " alone", all, all.at(k, 39), k + 1);
            e.due("TEXT " + k + " alone", all.put(k, 59, 0), k < 4 ? 1001 + k : BAD);
        }
    }
}
