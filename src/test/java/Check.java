import java.util.function.LongSupplier;
import java.util.function.Supplier;
import java.util.function.ToLongFunction;

/** What the tests share: counting wrong answers, writing TEXTS, and seeing that a refusal changes nothing. */
final class Check {
    static final int BAD = -1, FULL = -2, FINDING = -3, STATE = -4, SPENT = -6, NONE = -9;
    static final int NOTHING = 1, BEYOND = 2, UNLIKE = 3, NOUGHT = 4, SIZE = 5;
    /** Numbers that are hardly ever as told, tried wherever a number can be wrong. */
    static final int[] WILD = {-1, -2, 1000, Integer.MAX_VALUE, Integer.MIN_VALUE};

    private int wrong = 0;
    private int seen = 0;

    void due(String call, long got, long want) {
        seen++;
        if (got != want) {
            wrong++;
            System.out.println(call + " answered " + got + ", due is " + want);
        }
    }

    /** A call that tells its answer by asked(). */
    void told(SighGuild g, String call, long got, long want) {
        due(call, got, 1);
        due(call + " asked()", g.asked(), want);
    }

    void refused(SighGuild g, String call, int want, LongSupplier answer) {
        String before = stateOf(g) + findingsOf(g, 0);
        due(call, answer.getAsLong(), want);
        same(call, stateOf(g) + findingsOf(g, 0), before);
    }

    /** On an object of its own: what the document promises ends with an object's 512th call. */
    void refused(Supplier<SighGuild> state, String call, int want, ToLongFunction<SighGuild> answer) {
        SighGuild g = state.get();
        refused(g, call, want, () -> answer.applyAsLong(g));
    }

    void found(SighGuild g, String call, int finding, LongSupplier answer) {
        String before = stateOf(g);
        String due = findingsOf(g, finding);
        due(call, answer.getAsLong(), FINDING);
        same(call, stateOf(g), before);
        same(call, findingsOf(g, 0), due);
    }

    void chance(SighGuild g, String call, long got, long upper, long lower) {
        due(call, got, 1);
        due(call + " upper()", g.upper(), upper);
        due(call + " lower()", g.lower(), lower);
    }

    void ints(SighGuild g, int r, int... want) {
        for (int i = 0; i < want.length; i++) {
            told(g, "at(" + r + ", " + i + ")", g.at(r, i), want[i]);
        }
        due("at(" + r + ", " + want.length + ")", g.at(r, want.length), FINDING);
        due("finding()", g.finding(), BEYOND);
    }

    private void same(String call, String got, String want) {
        seen++;
        if (!got.equals(want)) {
            wrong++;
            System.out.println(call + " left " + got + ", due is " + want);
        }
    }

    static String stateOf(SighGuild g) {
        return g.digest() + " asked " + g.asked() + " chance " + g.upper() + "/" + g.lower();
    }

    /** Findings as they are, or as they are due after one more. */
    private static String findingsOf(SighGuild g, int more) {
        StringBuilder all = new StringBuilder(" findings");
        for (int f = NOTHING; f <= SIZE; f++) {
            all.append(' ').append(g.findings(f) + (f == more ? 1 : 0));
        }
        return all.append(" latest ").append(more == 0 ? g.finding() : more).toString();
    }

    static void write(SighGuild g, int t, String text) {
        g.text(t, text.length());
        for (int i = 0; i < text.length(); i++) {
            g.put(t, i, text.charAt(i));
        }
    }

    static void lay(SighGuild g, int r, int... ints) {
        g.row(r, ints.length);
        for (int i = 0; i < ints.length; i++) {
            g.lay(r, i, ints[i]);
        }
    }

    static SighGuild guildOf(String text) {
        SighGuild g = new SighGuild();
        write(g, 0, text);
        if (g.guild(0) < 0) {
            throw new IllegalArgumentException("no guild: " + text);
        }
        return g;
    }

    void end(String name) {
        System.out.println(name + ": " + seen + " answers, " + wrong + " not as due");
        if (wrong != 0 || seen == 0) {
            System.exit(1);
        }
    }
}
