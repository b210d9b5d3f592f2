import java.lang.reflect.Field;
import java.lang.reflect.Method;
import java.lang.reflect.Modifier;
import java.util.ArrayList;
import java.util.Arrays;
import java.util.List;
import java.util.regex.Matcher;
import java.util.regex.Pattern;
import java.util.stream.Collectors;

/** The parts "What it is" and "The public face", and what the Terms say of the interface. */
final class Sentences {
    /** Their BREATH 5, 4, 0, 6, 4, their TUNES 3, 1, 8, 0, 2; houses at 2, 7, 5, 9. */
    static final String EVENING = "d53 a41 f08 m60 p42 o239 o745 o512 o923";
    private static final int DEEP = 0, APPRENTICE = 1, FORGER = 2, MASTER = 3, POET = 4;
    private static final Pattern CONSTANT = Pattern.compile("([A-Z]+) = (-\\d+)");
    private static final Pattern CALL = Pattern.compile("(int|long) (\\w+)\\(([^)]*)\\)");
    private static final Pattern GROUP = Pattern.compile("Ahead of the calls (.*) the interface says: ---- (\\d) .*\\.");
    private final Edge e;

    private Sentences(Edge e) {
        this.e = e;
    }

    static void all(Edge e) {
        Sentences t = new Sentences(e);
        t.whatItIs();
        t.face();
        t.groups();
    }

    private void whatItIs() {
        int head = Edge.HEAD;
        e.says(head, "A guild of sighs: in this city where nobody has the time they're done for one, by sworn sighers, "
                + "at a tariff", this::tariff);
        e.says(head, "sighers of kinds (deep ones, apprentices, forgers, masters, poets) with breath and tune",
                this::sighers);
        e.says(head, "orders by houses along a street, how deep, for how much, in a small language", this::orders);
        e.says(head, "who walks, sighs, rests, undone", this::deeds);
        e.says(head, "what each takes, brings, who can do which", this::whoCan);
        e.says(head, "orders given to sighers so that most is had", this::given);
        e.says(head, "rounds at dusk in few hours, the shortest way through told houses", this::rounds);
        e.says(head, "who is in tune, the greatest choir", this::tune);
        e.says(head, "a sigh that got loose, whom it touches", this::loose);
        e.says(head, "which sigher it can have been, of which kind, with how much breath, by what it took", this::who);
        e.says(head, "by turns a guild and a strike", this::strike);
        e.says(head, "chances that orders are taken back, means", this::chances);
        e.says(head, "evenings by lots", this::lots);
        e.says(head, "guilds kept, gone on from. ======== ANSWERS.", this::kept);
    }

    private static SighGuild evening() {
        return Check.guildOf(EVENING);
    }

    private void tariff() {
        SighGuild g = evening();
        e.due("walk", g.walk(MASTER, 2), 2);
        e.due("sigh, for 9 and 2 more", g.sigh(MASTER, 0), 11);
        e.told("done", g, g.order(0, 3), 1);
        e.due("GOLD", g.count(3), 11);
    }

    private void sighers() {
        SighGuild g = evening();
        int[][] due = {{1, 5, 3}, {2, 4, 1}, {3, 0, 8}, {4, 6, 0}, {5, 4, 2}};
        for (int i = 0; i < 5; i++) {
            for (int what = 0; what < 3; what++) {
                e.told("sigher(" + i + ", " + what + ")", g, g.sigher(i, what), due[i][what]);
            }
        }
        e.due("SIGHERS", g.count(0), 5);
        e.due("all BREATH", g.count(5), 19);
        e.due("deep ones", g.count(6), 2);
        e.due("apprentices", g.count(7), 2);
    }

    private void orders() {
        SighGuild g = evening();
        int[][] due = {{2, 3, 9}, {7, 4, 5}, {5, 1, 2}, {9, 2, 3}};
        for (int o = 0; o < 4; o++) {
            for (int what = 0; what < 3; what++) {
                e.told("order(" + o + ", " + what + ")", g, g.order(o, what), due[o][what]);
            }
        }
        e.due("ORDERS", g.count(1), 4);
        e.due("no FAULT", g.fault(0), Check.NONE);
        Check.write(g, 0, EVENING.replace("o745", "o705"));
        e.due("a FAULT", g.fault(0), EVENING.indexOf("o745") + 2);
    }

    private void deeds() {
        SighGuild g = evening();
        e.due("walks", g.walk(POET, 5), 5);
        e.due("sighs", g.sigh(POET, 2), 1);
        e.due("rests", g.rest(POET), 5);
        e.due("walks on", g.walk(POET, 2), 3);
        e.due("undone from the rest on", g.undo(2), 2);
        e.told("BREATH", g, g.sigher(POET, 1), 3);
        e.told("the PLACE", g, g.sigher(POET, 3), 5);
        e.due("undone, all", g.undo(0), 2);
        e.due("as at first", g.count(3) + g.count(4), 0);
    }

    private void whoCan() {
        SighGuild g = evening();
        int no = Check.NONE;
        int[][] takes = {{1, 2, 1, 1}, {3, no, 1, 2}, {0, 0, 0, 0}, {1, 2, 1, 1}, {3, 4, 1, 2}};
        int[][] brings = {{9, 5, 2, 3}, {9, 5, 2, 3}, {4, 2, 1, 1}, {11, 7, 4, 5}, {8, 4, 1, 2}};
        for (int i = 0; i < 5; i++) {
            for (int o = 0; o < 4; o++) {
                e.due("takes(" + i + ", " + o + ")", g.takes(i, o), takes[i][o]);
                e.due("brings(" + i + ", " + o + ")", g.brings(i, o), brings[i][o]);
            }
            e.told("what it CAN do", g, g.sigher(i, 4), i == APPRENTICE ? 0b1101 : 0b1111);
        }
        e.told("who CAN do it", g, g.order(1, 4), 0b11101);
        e.told("who CAN do it", g, g.order(0, 4), 0b11111);
    }

    private void given() {
        SighGuild g = evening();
        e.due("the most GOLD", g.give(0), 27);
        e.ints(g, 0, MASTER, MASTER, MASTER, MASTER);
        e.due("the most ORDERS", g.most(0), 4);
        e.ints(g, 0, DEEP, DEEP, DEEP, DEEP);
        e.due("plain()", g.plain(), 4);
        e.due("GOLD so had", g.asked(), 19);
    }

    private void rounds() {
        SighGuild g = evening();
        e.due("all in 13 hours", g.dusk(MASTER, 13, 1), 27);
        e.ints(g, 1, 0, 2, 1, 3);
        e.due("in 12 hours", g.dusk(MASTER, 12, 1), 23);
        e.ints(g, 1, 0, 1, 3);
        e.due("in 2 hours", g.dusk(MASTER, 2, 1), 0);
        e.ints(g, 1);
        e.due("hours", g.hours(DEEP, 0b1111), 13);
        e.due("hours, too deep", g.hours(APPRENTICE, 0b1111), Check.NONE);
        e.due("way", g.way(FORGER, 0b1111), 9);
        g.walk(FORGER, 6);
        e.due("way from 6: to 9, back to 2", g.way(FORGER, 0b1111), 10);
        e.due("way from 6: to 7, back to 5", g.way(FORGER, 0b0110), 3);
    }

    private void tune() {
        SighGuild g = evening();
        e.due("pairs", g.pairs(1), 3);
        e.due("the first, 0 and 4", g.asked(), 4);
        e.due("choir", g.choir(1), 2);
        e.due("1 and 3", g.asked(), 0b01010);
        e.due("choir", g.choir(2), 3);
        e.due("0, 1 and 4", g.asked(), 0b10011);
    }

    private void loose() {
        SighGuild g = evening();
        e.due("3 deep at 5", g.loose(5, 3, 20), 0b0110);
        e.due("5 deep at 8, by 0 to 2", g.loose(8, 5, 20), 0b1001);
        e.due("5 deep at 8, 2 hours", g.loose(8, 5, 2), 0b1000);
    }

    private void who() {
        SighGuild g = evening();
        Check.lay(g, 0, 0, 1, 1, 2);
        e.due("who", g.who(0), 1 << DEEP | 1 << MASTER);
        e.due("kinds", g.kinds(APPRENTICE, 0), 1 << 1 | 1 << 4);
        e.due("kinds, without BREATH", g.kinds(FORGER, 0), 0);
        e.due("breaths", g.breaths(DEEP, 0), 0b1111111000);
        e.due("breaths", g.breaths(POET, 0), 0);
    }

    private void strike() {
        SighGuild g = evening();
        e.due("no turns", g.strike(0), 0);
        e.due("the MASTER's 11", g.strike(1), 11);
        e.due("then 5 by the DEEP one", g.strike(2), 16);
    }

    private void chances() {
        SighGuild g = evening();
        e.chance("none taken back", g, g.odds(19, 6), 1, 16);
        e.chance("the first one not", g, g.odds(9, 6), 9, 16);
        e.chance("the mean", g, g.mid(6), 19, 2);
        e.chance("the mean", g, g.mid(3), 57, 4);
    }

    /** The numbers are 48271 (1 walks to 5), 182605794 (4 rests), 1291394886 (1 rests). */
    private void lots() {
        SighGuild g = evening();
        e.due("GOLD", g.lots(3, 1), 0);
        e.told("the PLACE", g, g.sigher(APPRENTICE, 3), 5);
        e.told("BREATH", g, g.sigher(POET, 1), 6);
        e.told("BREATH", g, g.sigher(APPRENTICE, 1), 6);
        e.due("DEEDS", g.count(2), 3);
        e.due("all BREATH", g.count(5), 23);
    }

    private void kept() {
        SighGuild g = evening();
        g.walk(MASTER, 2);
        g.sigh(MASTER, 0);
        e.due("kept", g.keep(1), 2);
        g.undo(0);
        e.due("GOLD", g.count(3), 0);
        e.due("gone on from", g.on(1), 2);
        e.due("GOLD", g.count(3), 11);
        g.walk(MASTER, 7);
        e.due("and on", g.sigh(MASTER, 1), 18);
        e.due("the first answer that is kept", g.on(1), 2);
    }

    /** Each line of the face stands in the class so, and each promise is one of its calls, in their order. */
    private void face() {
        List<String> calls = new ArrayList<>();
        for (String line : e.part(Edge.FACE).split("\n")) {
            String words = line.trim();
            if (words.startsWith("public static final int")) {
                e.says(Edge.FACE, words, () -> constants(words));
            } else if (words.startsWith("public final class")) {
                e.says(Edge.FACE, words, () -> e.due("public, final", SighGuild.class.getModifiers(),
                        Modifier.PUBLIC | Modifier.FINAL));
            } else if (words.equals("public SighGuild();")) {
                e.says(Edge.FACE, words, () -> e.due("constructors", SighGuild.class.getConstructors().length, 1));
            } else if (words.startsWith("public ")) {
                e.says(Edge.FACE, words, () -> e.due("a call of the class", isCall(words) ? 1 : 0, 1));
                calls.add(words.substring("public ".length(), words.length() - 1));
            }
        }
        e.due("calls of the face", calls.size(), 44);
        for (int p = 2; p <= Edge.PROMISES; p++) {
            String call = calls.get(p - 2);
            e.due("promise " + p + " is of " + call, e.part(p).contains("`" + call + "`") ? 1 : 0, 1);
            String name = call.substring(call.indexOf(' ') + 1, call.indexOf('('));
            e.due("so is its heading", e.document.contains("## Promise " + p + ": " + name + "\n") ? 1 : 0, 1);
        }
    }

    private void constants(String line) {
        Matcher m = CONSTANT.matcher(line);
        int seen = 0;
        while (m.find()) {
            seen++;
            int value = 0;
            try {
                Field f = SighGuild.class.getField(m.group(1));
                e.due(m.group(1), f.getModifiers(), Modifier.PUBLIC | Modifier.STATIC | Modifier.FINAL);
                value = f.getInt(null);
            } catch (ReflectiveOperationException none) {
                e.due(m.group(1) + " is missing", 1, 0);
            }
            e.due(m.group(1), value, Integer.parseInt(m.group(2)));
        }
        e.due("constants", seen, 6);
    }

    private static boolean isCall(String words) {
        Matcher m = CALL.matcher(words);
        if (!m.find()) {
            return false;
        }
        int numbers = m.group(3).isEmpty() ? 0 : m.group(3).split(",").length;
        Class<?>[] types = new Class<?>[numbers];
        Arrays.fill(types, int.class);
        try {
            Method call = SighGuild.class.getDeclaredMethod(m.group(2), types);
            return call.getReturnType().getName().equals(m.group(1)) && call.getModifiers() == Modifier.PUBLIC;
        } catch (NoSuchMethodException none) {
            return false;
        }
    }

    /** All groups together have every call of the face once, in its order. */
    private void groups() {
        List<String> named = new ArrayList<>();
        Matcher m = GROUP.matcher(e.part(Edge.TERMS));
        int many = 0;
        while (m.find()) {
            many++;
            int number = many;
            e.says(Edge.TERMS, m.group(), () -> e.due("its number", Integer.parseInt(m.group(2)), number));
            for (String name : m.group(1).split(", ")) {
                named.add(name.replace("`", ""));
            }
        }
        e.due("groups", many, 9);
        List<String> due = Pattern.compile("public (?:int|long) (\\w+)\\(").matcher(e.part(Edge.FACE)).results()
                .map(r -> r.group(1)).collect(Collectors.toList());
        e.due("all calls, in their order", named.equals(due) ? 1 : 0, 1);
    }
}
