import java.util.Arrays;
import java.util.LinkedHashMap;
import java.util.Map;
import java.util.Set;
import java.util.TreeSet;
import java.util.function.Supplier;

/** The part "Not promised": what each call changes, by a twin that did not hear it, and that objects share nothing. */
final class Changes {
    private static final String ASKED = "asked", CHANCE = "chance", GUILD = "guild";
    private static final Supplier<SighGuild> BUSY = Edge.of(Sentences.EVENING, Changes::rows, Changes::deeds,
            Changes::said);
    private final Edge e;

    private Changes(Edge e) {
        this.e = e;
    }

    static void all(Edge e) {
        Changes t = new Changes(e);
        e.says(Edge.FREE, "How the state is held inside the object is free, as are the speed of each call, the text of "
                + "toString and the behaviour of equals and hashCode.", t::free);
        e.says(Edge.FREE, "Use of one object from several threads at once is not promised to be safe.", t::threads);
        e.says(Edge.FREE, "Nothing is promised beyond the answers and state changes described above, and nothing about "
                + "an object after its 512th call.", t::changes);
        t.shareNothing();
    }

    private static void rows(SighGuild g) {
        Check.lay(g, 0, 3, 1, 4, 1, 5);
        g.row(1, 0);
        Check.lay(g, 2, 0, 1, 1, 2);
        Check.write(g, 1, "s11 o111");
    }

    /** ORDER 0 is done, the MASTER is at the house of ORDER 1; what is kept has 2 DEEDS, what is now has 3. */
    private static void deeds(SighGuild g) {
        g.walk(0, 2);
        g.sigh(0, 0);
        g.keep(0);
        g.walk(3, 7);
    }

    private static void said(SighGuild g) {
        g.at(5, 0);
        g.row(0, -1);
        g.at(0, 2);
        g.odds(1, 4);
    }

    /** All that can be seen of an object, by what it is of; looking takes three objects, as none may hear 512 calls. */
    private static Map<String, String> seen(Supplier<SighGuild> state) {
        Map<String, String> all = new LinkedHashMap<>();
        tell(state.get(), all);
        SighGuild now = state.get();
        StringBuilder guild = new StringBuilder(memberStory(now));
        undoAll(now, guild);
        all.put(GUILD, guild.toString());
        SighGuild later = state.get();
        for (int k = 0; k < 3; k++) {
            int deeds = later.on(k);
            StringBuilder kept = new StringBuilder("" + deeds);
            if (deeds >= 0) {
                undoAll(later, kept);
            }
            all.put("kept " + k, kept.toString());
        }
        return all;
    }

    private static void tell(SighGuild g, Map<String, String> all) {
        all.put(ASKED, "" + g.asked());
        all.put(CHANCE, g.upper() + "/" + g.lower());
        StringBuilder findings = new StringBuilder("" + g.finding());
        for (int f = 1; f <= 5; f++) {
            findings.append(' ').append(g.findings(f));
        }
        all.put("findings", findings.toString());
        for (int r = 0; r < 6; r++) {
            StringBuilder row = new StringBuilder();
            for (int i = 0; g.at(r, i) == 1; i++) {
                row.append(g.asked()).append(' ');
            }
            all.put("row " + r, row.append(g.finding()).toString());
        }
        for (int t = 0; t < 4; t++) {
            StringBuilder text = new StringBuilder();
            for (int i = 0, was = g.put(t, i, 0); was != Check.FINDING; i++, was = g.put(t, i, 0)) {
                text.append(was).append(' ');
            }
            all.put("text " + t, text.append(g.finding()).toString());
        }
    }

    /** What no DEED changes. */
    private static String memberStory(SighGuild g) {
        StringBuilder story = new StringBuilder();
        for (int k = 0; k < 6; k++) {
            for (int what = 0; what < 3; what++) {
                story.append(' ').append(g.sigher(k, what) == 1 ? g.asked() : Check.BAD);
                story.append(' ').append(g.order(k, what) == 1 ? g.asked() : Check.BAD);
            }
        }
        return story.toString();
    }

    /** How the GUILD is behind each of its DEEDS. */
    private static void undoAll(SighGuild g, StringBuilder story) {
        for (int n = g.count(2); n >= 0; n--) {
            g.undo(n);
            story.append(" DEEDS ").append(g.count(2)).append(" GOLD ").append(g.count(3)).append(" done ").append(g.count(4));
            for (int i = 0; i < 5; i++) {
                story.append(' ').append(g.sigher(i, 1) == 1 ? g.asked() : Check.BAD);
                story.append(' ').append(g.sigher(i, 3) == 1 ? g.asked() : Check.BAD);
            }
        }
    }

    private void only(String call, Edge.Call by, String... due) {
        int answer = by.by(BUSY.get());
        e.due(call + " is not refused", answer >= 0 || answer == Check.NONE ? 1 : 0, 1);
        Map<String, String> left = seen(() -> {
            SighGuild g = BUSY.get();
            by.by(g);
            return g;
        });
        Map<String, String> before = seen(BUSY);
        Set<String> changed = new TreeSet<>();
        for (String what : before.keySet()) {
            if (!before.get(what).equals(left.get(what))) {
                changed.add(what);
            }
        }
        boolean same = changed.equals(new TreeSet<>(Arrays.asList(due)));
        if (!same) {
            System.out.println(call + " changed " + changed + ", due is " + Arrays.toString(due));
        }
        e.due(call + " changes what it should and nothing else", same ? 1 : 0, 1);
    }

    private void changes() {
        rowsAndTexts();
        guildsAndDeeds();
        aside();
        told();
    }

    private void rowsAndTexts() {
        only("row(0, 2)", g -> g.row(0, 2), "row 0");
        only("row(3, 0)", g -> g.row(3, 0), "row 3");
        only("row(1, 0)", g -> g.row(1, 0));
        only("lay(0, 0, 9)", g -> g.lay(0, 0, 9), "row 0", ASKED);
        only("lay(0, 0, 3)", g -> g.lay(0, 0, 3), ASKED);
        only("at(0, 0)", g -> g.at(0, 0), ASKED);
        only("at(0, 2)", g -> g.at(0, 2));
        only("tear(1)", g -> g.tear(1), "row 1");
        only("copy(0, 0, 2, 1, 2)", g -> g.copy(0, 0, 2, 1, 2), "row 2");
        only("copy(0, 0, 0, 1, 3)", g -> g.copy(0, 0, 0, 1, 3), "row 0");
        only("copy(0, 0, 2, 1, 0)", g -> g.copy(0, 0, 2, 1, 0));
        only("mean(0)", g -> g.mean(0), ASKED);
        only("text(1, 3)", g -> g.text(1, 3), "text 1");
        only("text(0, 3), the GUILD's", g -> g.text(0, 3), "text 0");
        only("text(3, 0)", g -> g.text(3, 0), "text 3");
        only("put(1, 0, 5)", g -> g.put(1, 0, 5), "text 1");
        only("put(0, 0, 5), the GUILD's", g -> g.put(0, 0, 5), "text 0");
        only("fault(0)", g -> g.fault(0));
        only("fault(1)", g -> g.fault(1));
    }

    private void guildsAndDeeds() {
        only("guild(1)", g -> g.guild(1), GUILD, "kept 0");
        only("guild(0)", g -> g.guild(0), GUILD, "kept 0");
        only("sigher(0, 0)", g -> g.sigher(0, 0), ASKED);
        only("order(1, 0)", g -> g.order(1, 0), ASKED);
        only("mark(0, 1)", g -> g.mark(0, 1));
        only("walk(1, 5)", g -> g.walk(1, 5), GUILD);
        only("sigh(3, 1)", g -> g.sigh(3, 1), GUILD);
        only("rest(1)", g -> g.rest(1), GUILD);
        only("undo(1)", g -> g.undo(1), GUILD);
        only("undo(3)", g -> g.undo(3));
        only("keep(0)", g -> g.keep(0), "kept 0");
        only("keep(2)", g -> g.keep(2), "kept 2");
        only("on(0)", g -> g.on(0), GUILD);
        only("lots(3, 1)", g -> g.lots(3, 1), GUILD);
    }

    private void aside() {
        only("takes(0, 0)", g -> g.takes(0, 0));
        only("takes(1, 1)", g -> g.takes(1, 1));
        only("brings(0, 0)", g -> g.brings(0, 0));
        only("give(4)", g -> g.give(4), "row 4");
        only("give(0)", g -> g.give(0), "row 0");
        only("most(4)", g -> g.most(4), "row 4");
        only("most(1)", g -> g.most(1), "row 1");
        only("plain()", SighGuild::plain, ASKED);
        only("way(3, 15)", g -> g.way(3, 15));
        only("dusk(3, 20, 5)", g -> g.dusk(3, 20, 5), "row 5");
        only("dusk(3, 0, 1)", g -> g.dusk(3, 0, 1));
        only("hours(3, 15)", g -> g.hours(3, 15));
        only("hours(1, 15)", g -> g.hours(1, 15));
        only("pairs(1)", g -> g.pairs(0), ASKED);
        only("choir(1)", g -> g.choir(1), ASKED);
        only("loose(0, 9, 20)", g -> g.loose(0, 9, 20));
        only("who(2)", g -> g.who(2));
        only("kinds(0, 2)", g -> g.kinds(0, 2));
        only("breaths(0, 2)", g -> g.breaths(0, 2));
        only("strike(2)", g -> g.strike(2));
        only("odds(1, 5)", g -> g.odds(1, 5), CHANCE);
        only("mid(5)", g -> g.mid(5), CHANCE);
    }

    private void told() {
        only("asked()", SighGuild::asked);
        only("upper()", g -> (int) g.upper());
        only("lower()", g -> (int) g.lower());
        for (int what = 0; what <= 10; what++) {
            int of = what;
            only("count(" + what + ")", g -> g.count(of));
        }
        only("finding()", SighGuild::finding);
        for (int f = 1; f <= 5; f++) {
            int of = f;
            only("findings(" + f + ")", g -> g.findings(of));
        }
        only("digest()", g -> g.digest() == 0 ? 0 : 1);
    }

    private void free() {
        only("toString()", g -> g.toString() == null ? 0 : 1);
        only("equals()", g -> g.equals(new SighGuild()) ? 0 : 1);
        only("hashCode()", g -> g.hashCode() & 1);
    }

    /** An evening as it is heard, with something else between its calls. */
    private static long evening(SighGuild g, Runnable between) {
        long heard = 0;
        for (int k = 1; k <= 6; k++) {
            heard = 31 * heard + g.lots(5, k);
            between.run();
            heard = 31 * heard + g.give(k - 1) + g.plain() + g.strike(2);
            between.run();
            heard = 31 * heard + g.asked() + g.dusk(k % 5, 20, k % 6) + g.odds(4, k);
            between.run();
            heard = 31 * heard + g.upper() + g.lower() + g.keep(k % 3) + g.at(5, k);
            between.run();
            heard = 31 * heard + g.finding() + g.findings(2) + g.digest();
        }
        return heard;
    }

    /** An object for each thread is safe, as there is nothing that they share. */
    private void threads() {
        long due = evening(BUSY.get(), () -> { });
        long[] heard = new long[8];
        Thread[] all = new Thread[heard.length];
        for (int k = 0; k < all.length; k++) {
            int mine = k;
            all[k] = new Thread(() -> {
                for (int again = 0; again < 20; again++) {
                    heard[mine] = evening(BUSY.get(), () -> { });
                }
            });
            all[k].start();
        }
        for (int k = 0; k < all.length; k++) {
            try {
                all[k].join();
            } catch (InterruptedException stopped) {
                e.due("thread " + k + " came to its end", 0, 1);
            }
            e.due("an object for thread " + k, heard[k], due);
        }
    }

    private void shareNothing() {
        long due = evening(BUSY.get(), () -> { });
        SighGuild other = Check.guildOf(SighersTest.FIVE);
        int[] turn = {0};
        long heard = evening(BUSY.get(), () -> {
            turn[0]++;
            other.row(turn[0] % 6, 40);
            other.text(1, 60);
            other.lots(2, turn[0]);
            other.give(2);
            other.most(3);
            other.dusk(0, 30, 4);
            other.strike(2);
            other.mid(5);
            other.keep(0);
            other.at(5, 41);
            other.choir(5);
        });
        e.due("another object between its calls", heard, due);
        e.due("a new object behind all this", new SighGuild().digest(), new SighGuild().digest());
    }
}
