import java.lang.management.ManagementFactory;
import java.lang.reflect.Field;
import java.lang.reflect.Method;
import java.lang.reflect.Modifier;
import java.util.Arrays;
import java.util.Set;
import java.util.TreeSet;

/** The public face, what LANGUAGE.md says of classes and their members, and that calls make no objects. */
public final class FaceTest {
    private static final Check c = new Check();
    private static final String[] FACE = {
        "int row(int,int)", "int lay(int,int,int)", "int at(int,int)", "int tear(int)", "int copy(int,int,int,int,int)",
        "int mean(int)", "int text(int,int)", "int put(int,int,int)", "int fault(int)", "int guild(int)",
        "int sigher(int,int)", "int order(int,int)", "int mark(int,int)", "int walk(int,int)", "int sigh(int,int)",
        "int rest(int)", "int undo(int)", "int keep(int)", "int on(int)", "int takes(int,int)", "int brings(int,int)",
        "int give(int)", "int most(int)", "int plain()", "int way(int,int)", "int dusk(int,int,int)",
        "int hours(int,int)", "int pairs(int)", "int choir(int)", "int loose(int,int,int)", "int who(int)",
        "int kinds(int,int)", "int breaths(int,int)", "int strike(int)", "int odds(int,int)", "int mid(int)",
        "int lots(int,int)", "int asked()", "long upper()", "long lower()", "int count(int)", "int finding()",
        "int findings(int)", "long digest()",
    };

    public static void main(String[] args) {
        face();
        insides();
        makesNothing();
        c.end("FaceTest");
    }

    private static void face() {
        Set<String> due = new TreeSet<>(Arrays.asList(FACE));
        Set<String> there = new TreeSet<>();
        for (Method m : SighGuild.class.getDeclaredMethods()) {
            if (!Modifier.isPrivate(m.getModifiers())) {
                c.due("public, not static: " + m, m.getModifiers(), Modifier.PUBLIC);
                String types = Arrays.toString(m.getParameterTypes()).replace("[", "(").replace("]", ")");
                there.add(m.getReturnType() + " " + m.getName() + types.replace(" ", ""));
            }
        }
        if (!there.equals(due)) {
            System.out.println("the face is " + there);
        }
        c.due("face as told", there.equals(due) ? 1 : 0, 1);
        int constants = 0;
        for (Field f : SighGuild.class.getDeclaredFields()) {
            int m = f.getModifiers();
            constants += Modifier.isPrivate(m) ? 0 : 1;
            c.due("static is final: " + f, Modifier.isStatic(m) && !Modifier.isFinal(m) ? 1 : 0, 0);
        }
        c.due("public constants", constants, 6);
        c.due("constructors", SighGuild.class.getDeclaredConstructors().length, 1);
        c.due("public and final", SighGuild.class.getModifiers(), Modifier.PUBLIC | Modifier.FINAL);
    }

    private static void insides() {
        Set<String> names = new TreeSet<>();
        for (Method m : SighGuild.class.getMethods()) {
            names.add(m.getName());
        }
        Class<?>[] inside = SighGuild.class.getDeclaredClasses();
        c.due("at most twelve classes", inside.length < 12 ? 1 : 0, 1);
        for (Class<?> k : inside) {
            c.due("static: " + k, Modifier.isStatic(k.getModifiers()) ? 1 : 0, 1);
            privates(k, names);
        }
        privates(SighGuild.class, names);
    }

    private static void privates(Class<?> k, Set<String> names) {
        for (Method m : k.getDeclaredMethods()) {
            if (Modifier.isPrivate(m.getModifiers())) {
                c.due("a name of its own: " + m, names.contains(m.getName()) ? 1 : 0, 0);
            }
            c.due("at most seven parameters: " + m, m.getParameterCount() <= 7 ? 1 : 0, 1);
        }
        long fields = Arrays.stream(k.getDeclaredFields()).filter(f -> !Modifier.isStatic(f.getModifiers())).count();
        c.due("at most twenty fields: " + k, fields <= 20 ? 1 : 0, 1);
    }

    /** All calls of a run live in one room: none may take any of it. */
    private static void makesNothing() {
        com.sun.management.ThreadMXBean threads =
                (com.sun.management.ThreadMXBean) ManagementFactory.getThreadMXBean();
        SighGuild[] all = new SighGuild[25];
        for (int k = 0; k < all.length; k++) {
            all[k] = Check.guildOf(SighersTest.FIVE);
            everyCall(all[k]);
        }
        long before = threads.getThreadAllocatedBytes(Thread.currentThread().getId());
        for (int k = 0; k < 200; k++) {
            everyCall(all[k % all.length]);
        }
        long made = threads.getThreadAllocatedBytes(Thread.currentThread().getId()) - before;
        if (made > 20000) {
            System.out.println("200 times every call made " + made + " bytes");
        }
        c.due("calls make no objects", made > 20000 ? 1 : 0, 0);
    }

    private static void everyCall(SighGuild g) {
        g.row(0, 40);
        g.lay(0, 1, 5);
        g.copy(0, 0, 0, 1, 20);
        g.mean(0);
        g.tear(0);
        g.at(0, 0);
        g.text(1, 60);
        g.put(1, 3, 100);
        g.fault(1);
        g.guild(0);
        g.sigher(0, 4);
        g.order(0, 4);
        g.mark(0, 1);
        g.walk(0, 2);
        g.sigh(0, 0);
        g.rest(0);
        g.keep(0);
        g.undo(1);
        g.on(0);
        g.takes(0, 1);
        g.brings(0, 1);
        g.give(1);
        g.most(2);
        g.plain();
        g.way(0, 63);
        g.dusk(0, 30, 3);
        g.hours(0, 63);
        g.pairs(3);
        g.choir(3);
        g.loose(0, 9, 20);
        g.row(4, 2);
        g.who(4);
        g.kinds(0, 4);
        g.breaths(0, 4);
        g.strike(2);
        g.odds(10, 5);
        g.mid(5);
        g.lots(20, 77);
        g.count(8);
        g.findings(1);
        g.digest();
    }
}
