import java.io.IOException;
import java.nio.file.Files;
import java.nio.file.Path;
import java.util.Arrays;
import java.util.LinkedHashSet;
import java.util.Set;
import java.util.function.IntUnaryOperator;
import java.util.function.Supplier;
import java.util.regex.Matcher;
import java.util.regex.Pattern;

/**
 * What the tests of the document share. Each test stands under the document's own words, which are looked up in
 * the document; at the end every word there, from its first line to its last, must stand under a test.
 */
final class Edge {
    static final int TERMS = 0;
    static final int PROMISES = 45;
    /** The parts "What it is", "The public face", "Not promised". */
    static final int HEAD = PROMISES + 1, FACE = PROMISES + 2, FREE = PROMISES + 3;
    private static final int PARTS = FREE + 1;
    private static final Pattern WORD = Pattern.compile("\\w+|\\.\\.");
    /** Names of calls, which FACE holds against the class, and the signs that frame a listing. */
    private static final Pattern FRAME = Pattern.compile("(?m)^```.*$|`[^`\\n]*`");

    /** One call, or one call by a number that is tried. */
    interface Call {
        int by(SighGuild g);
    }

    interface CallOf {
        int by(SighGuild g, int v);
    }

    interface Script {
        void on(SighGuild g);
    }

    final Check c = new Check();
    final String document;
    private final String[] parts = new String[PARTS];
    private final boolean[][] quoted = new boolean[PARTS][];
    private String about = "";

    Edge(Path document) throws IOException {
        this.document = Files.readString(document);
        parts[TERMS] = partOf("Terms");
        for (int p = 1; p <= PROMISES; p++) {
            parts[p] = partOf("Promise " + p + ":");
        }
        parts[HEAD] = partOf("What it is");
        parts[FACE] = partOf("The public face");
        parts[FREE] = partOf("Not promised");
        Matcher headings = Pattern.compile("(?m)^## ").matcher(this.document);
        c.due("parts of the document", headings.results().count(), PARTS);
        for (int p = 0; p < PARTS; p++) {
            quoted[p] = new boolean[parts[p].length()];
            Matcher m = FRAME.matcher(parts[p]);
            while (m.find()) {
                Arrays.fill(quoted[p], m.start(), m.end(), true);
            }
        }
    }

    private String partOf(String heading) {
        int from = document.indexOf("\n## " + heading);
        if (from < 0) {
            throw new IllegalArgumentException("the document has no " + heading);
        }
        int body = document.indexOf('\n', from + 1);
        int end = document.indexOf("\n## ", body);
        return document.substring(body, end < 0 ? document.length() : end);
    }

    String part(int p) {
        return parts[p];
    }

    /** A test of what the document's part says in these words. */
    void says(int promise, String words, Runnable test) {
        about = promise + " \"" + words + "\": ";
        int at = parts[promise].indexOf(words);
        c.due(about + "stands in the document", at >= 0 ? 1 : 0, 1);
        while (at >= 0) {
            Arrays.fill(quoted[promise], at, at + words.length(), true);
            at = parts[promise].indexOf(words, at + 1);
        }
        test.run();
    }

    void end(String name) {
        for (int p = 0; p < PARTS; p++) {
            Matcher m = WORD.matcher(parts[p]);
            while (m.find()) {
                String near = parts[p].substring(Math.max(0, m.start() - 40), Math.min(parts[p].length(), m.end() + 20))
                        .replace('\n', ' ');
                c.due("part " + p + " has a test of '" + m.group() + "' in '" + near + "'",
                        isQuoted(p, m.start(), m.end()) ? 1 : 0, 1);
            }
        }
        c.end(name);
    }

    private boolean isQuoted(int p, int from, int to) {
        boolean all = true;
        for (int k = from; k < to; k++) {
            all &= quoted[p][k];
        }
        return all;
    }

    void due(String call, long got, long want) {
        c.due(about + call, got, want);
    }

    /** The answer of a call that tells it by asked(); a refusal as it is. */
    static int asks(SighGuild g, int answer) {
        return answer == 1 ? g.asked() : answer;
    }

    void told(String call, SighGuild g, int answer, int want) {
        due(call, answer, 1);
        due(call + " asked()", g.asked(), want);
    }

    void chance(String call, SighGuild g, int answer, long upper, long lower) {
        due(call, answer, 1);
        due(call + " upper()", g.upper(), upper);
        due(call + " lower()", g.lower(), lower);
    }

    void ints(SighGuild g, int r, int... want) {
        for (int i = 0; i < want.length; i++) {
            told("at(" + r + ", " + i + ")", g, g.at(r, i), want[i]);
        }
        due("at(" + r + ", " + want.length + ")", g.at(r, want.length), Check.FINDING);
        due("finding()", g.finding(), Check.BEYOND);
    }

    /** A GUILD by a text, and what is then done with it. */
    static Supplier<SighGuild> of(String text, Script... then) {
        return () -> {
            SighGuild g = Check.guildOf(text);
            for (Script s : then) {
                s.on(g);
            }
            return g;
        };
    }

    static Supplier<SighGuild> anew(Script... then) {
        return () -> {
            SighGuild g = new SighGuild();
            for (Script s : then) {
                s.on(g);
            }
            return g;
        };
    }

    /** The call is refused so (a FINDING: by its number), and a twin who did not hear it goes on alike. */
    void refused(String call, Supplier<SighGuild> state, int answer, Call refused) {
        SighGuild g = state.get();
        SighGuild twin = state.get();
        boolean isFinding = answer > 0;
        due(call, refused.by(g), isFinding ? Check.FINDING : answer);
        for (int f = Check.NOTHING; f <= Check.SIZE; f++) {
            due(call + " findings(" + f + ")", g.findings(f), twin.findings(f) + (f == answer ? 1 : 0));
        }
        due(call + " finding()", g.finding(), isFinding ? answer : twin.finding());
        String left = storyOf(g);
        String due = storyOf(twin);
        if (!left.equals(due)) {
            System.out.println(about + call + " left " + left + ", due is " + due);
        }
        due(call + " changes nothing", left.equals(due) ? 1 : 0, 1);
    }

    /** All that can be seen of an object but its findings, also its DEEDS and kept GUILDS: it is spent by that. */
    private static String storyOf(SighGuild g) {
        StringBuilder story = new StringBuilder(Check.stateOf(g));
        undoAll(g, story);
        for (int k = 0; k < 3; k++) {
            story.append(" on ").append(g.on(k));
            undoAll(g, story);
        }
        return story.toString();
    }

    private static void undoAll(SighGuild g, StringBuilder story) {
        for (int n = g.count(2) - 1; n >= 0; n--) {
            story.append(' ').append(g.undo(n)).append(' ').append(g.digest());
        }
    }

    /** Numbers least .. greatest are taken, with these answers; all others BAD. */
    void limits(String call, Supplier<SighGuild> state, CallOf by, int least, int greatest, IntUnaryOperator want) {
        limits(call, state, by, least, greatest, want, Check.BAD, Check.BAD);
    }

    void limits(String call, Supplier<SighGuild> state, CallOf by, int least, int greatest, IntUnaryOperator want,
            int below, int above) {
        for (int v : taken(least, greatest)) {
            due(call + " by " + v, by.by(state.get(), v), want.applyAsInt(v));
        }
        for (int v : new int[] {least - 1, least - 2, least - 1000, Integer.MIN_VALUE}) {
            if (v < least) {
                refused(call + " by " + v, state, below, g -> by.by(g, v));
            }
        }
        for (int v : new int[] {greatest + 1, greatest + 2, greatest + 32, greatest + 256, Integer.MAX_VALUE}) {
            if (v > greatest) {
                refused(call + " by " + v, state, above, g -> by.by(g, v));
            }
        }
    }

    private static Set<Integer> taken(int least, int greatest) {
        Set<Integer> all = new LinkedHashSet<>();
        if (least <= greatest && (long) greatest - least <= 100) {
            for (int v = least; v <= greatest; v++) {
                all.add(v);
            }
        } else if (least <= greatest) {
            all.addAll(Arrays.asList(least, least + 1, greatest - 1, greatest));
        }
        return all;
    }
}
