import java.lang.reflect.InvocationTargetException;
import java.lang.reflect.Method;
import java.util.Arrays;
import java.util.Comparator;
import java.util.HashMap;
import java.util.Map;
import java.util.Random;

/** All promises: runs of random calls on the class and on Model, each answer held against the other. */
public final class ModelTest {
    private static final int RUNS = 6000;
    /** What the document promises ends with an object's 512th call; a step of a run makes up to 75. */
    private static final int CALLS = 512 - 75;
    private static final int[] ROW = {0, 5}, TEXT = {0, 3}, SIGHER = {0, 4}, ORDER = {0, 5}, SET = {0, 63};
    /** For each call the lowest and the highest number that it may take, argument by argument. */
    private static final Map<String, int[][]> RANGES = new HashMap<>();

    static {
        RANGES.put("row", new int[][] {ROW, {0, 14}});
        RANGES.put("lay", new int[][] {ROW, {0, 12}, {-1, 9}});
        RANGES.put("at", new int[][] {ROW, {0, 7}});
        RANGES.put("tear", new int[][] {ROW});
        RANGES.put("copy", new int[][] {ROW, {0, 9}, ROW, {0, 9}, {0, 9}});
        RANGES.put("mean", new int[][] {ROW});
        RANGES.put("text", new int[][] {{1, 3}, {0, 60}});
        RANGES.put("put", new int[][] {TEXT, {0, 59}, {0, 255}});
        RANGES.put("fault", new int[][] {TEXT});
        RANGES.put("guild", new int[][] {TEXT});
        RANGES.put("sigher", new int[][] {SIGHER, {0, 4}});
        RANGES.put("order", new int[][] {ORDER, {0, 4}});
        RANGES.put("mark", new int[][] {SIGHER, {1, 5}});
        RANGES.put("walk", new int[][] {SIGHER, {0, 9}});
        RANGES.put("sigh", new int[][] {SIGHER, ORDER});
        RANGES.put("rest", new int[][] {SIGHER});
        RANGES.put("undo", new int[][] {{0, 40}});
        RANGES.put("keep", new int[][] {{0, 2}});
        RANGES.put("on", new int[][] {{0, 2}});
        RANGES.put("takes", new int[][] {SIGHER, ORDER});
        RANGES.put("brings", new int[][] {SIGHER, ORDER});
        RANGES.put("give", new int[][] {ROW});
        RANGES.put("most", new int[][] {ROW});
        RANGES.put("plain", new int[][] {});
        RANGES.put("way", new int[][] {SIGHER, SET});
        RANGES.put("dusk", new int[][] {SIGHER, {0, 30}, ROW});
        RANGES.put("hours", new int[][] {SIGHER, SET});
        RANGES.put("pairs", new int[][] {{0, 9}});
        RANGES.put("choir", new int[][] {{0, 9}});
        RANGES.put("loose", new int[][] {{0, 9}, {1, 9}, {0, 20}});
        RANGES.put("who", new int[][] {ROW});
        RANGES.put("kinds", new int[][] {SIGHER, ROW});
        RANGES.put("breaths", new int[][] {SIGHER, ROW});
        RANGES.put("strike", new int[][] {{0, 2}});
        RANGES.put("odds", new int[][] {{0, 66}, {0, 12}});
        RANGES.put("mid", new int[][] {{0, 12}});
        RANGES.put("lots", new int[][] {{1, 20}, {1, 2147483646}});
        RANGES.put("asked", new int[][] {});
        RANGES.put("upper", new int[][] {});
        RANGES.put("lower", new int[][] {});
        RANGES.put("count", new int[][] {{0, 10}});
        RANGES.put("finding", new int[][] {});
        RANGES.put("findings", new int[][] {{1, 5}});
        RANGES.put("digest", new int[][] {});
    }

    private final Random random;
    private final Check c;
    private SighGuild mine;
    private Model model;
    private int used = 0;

    private ModelTest(int seed, Check c) {
        random = new Random(seed);
        this.c = c;
    }

    public static void main(String[] args) throws ReflectiveOperationException {
        Check c = new Check();
        Method[] calls = SighGuild.class.getDeclaredMethods();
        calls = Arrays.stream(calls).filter(m -> RANGES.containsKey(m.getName())
                && java.lang.reflect.Modifier.isPublic(m.getModifiers())).toArray(Method[]::new);
        Arrays.sort(calls, Comparator.comparing(Method::getName));
        c.due("calls of the face", calls.length, 44);
        for (int run = 0; run < RUNS; run++) {
            new ModelTest(run, c).run(run, calls);
        }
        c.end("ModelTest");
    }

    private void run(int run, Method[] calls) throws ReflectiveOperationException {
        mine = new SighGuild();
        model = new Model();
        int quietly = random.nextInt(4);
        writeGuild();
        while (used < CALLS) {
            Method call = calls[random.nextInt(calls.length)];
            String name = call.getName();
            if (name.equals("guild") && random.nextInt(4) != 0) {
                continue;
            }
            if (random.nextInt(40) == 0) {
                layPairs();
            } else if (random.nextInt(200) == 0) {
                writeGuild();
            } else if (random.nextInt(10) < quietly) {
                goSomewhereAndSigh(run);
            } else {
                both(run, call, numbers(name));
            }
        }
    }

    private Object[] numbers(String name) {
        int[][] ranges = RANGES.get(name);
        Object[] numbers = new Object[ranges.length];
        for (int k = 0; k < numbers.length; k++) {
            numbers[k] = number(ranges[k][0], ranges[k][1]);
        }
        return numbers;
    }

    private int number(int low, int high) {
        switch (random.nextInt(40)) {
            case 0: return low - 1;
            case 1: return high + 1;
            case 2: return random.nextInt();
            case 3: return random.nextBoolean() ? Integer.MAX_VALUE : Integer.MIN_VALUE;
            case 4: return low;
            case 5: return high;
            case 6: return 41 + random.nextInt(30);
            default: return low + random.nextInt(high - low + 1);
        }
    }

    private void both(int run, Method call, Object... numbers) throws ReflectiveOperationException {
        Method other = Model.class.getMethod(call.getName(), call.getParameterTypes());
        String said = "run " + run + ": " + call.getName() + Arrays.toString(numbers);
        try {
            c.due(said, ((Number) call.invoke(mine, numbers)).longValue(),
                    ((Number) other.invoke(model, numbers)).longValue());
        } catch (InvocationTargetException e) {
            System.out.println(said + " threw " + e.getCause());
            c.due(said, 1, 0);
        }
        c.due(said + " digest()", mine.digest(), model.digest());
        used += 2;
        if (random.nextInt(3) == 0) {
            told(said);
        }
    }

    private void told(String said) {
        c.due(said + " asked()", mine.asked(), model.asked());
        c.due(said + " upper()", mine.upper(), model.upper());
        c.due(said + " lower()", mine.lower(), model.lower());
        c.due(said + " finding()", mine.finding(), model.finding());
        used += 4;
    }

    /** Without this hardly an ORDER would ever get done. */
    private void goSomewhereAndSigh(int run) throws ReflectiveOperationException {
        int orders = model.count(1);
        int sighers = model.count(0);
        if (orders == 0) {
            return;
        }
        int i = random.nextInt(sighers);
        int o = random.nextInt(orders);
        model.order(o, 0);
        mine.order(o, 0);
        int place = model.asked();
        used++;
        both(run, SighGuild.class.getMethod("walk", int.class, int.class), i, place);
        both(run, SighGuild.class.getMethod("sigh", int.class, int.class), i, o);
    }

    /** A TEXT that mostly is a GUILD, and sometimes has a FAULT somewhere. */
    private void writeGuild() {
        StringBuilder text = new StringBuilder();
        blanks(text);
        int sighers = random.nextInt(30) == 0 ? 6 : random.nextInt(25) == 0 ? 0 : 1 + random.nextInt(5);
        int orders = random.nextInt(30) == 0 ? 7 : random.nextInt(25) == 0 ? 0 : 1 + random.nextInt(6);
        for (int i = 0; i < sighers; i++) {
            text.append("sdafmp".charAt(random.nextInt(6))).append(random.nextInt(10)).append(random.nextInt(10));
            blanks(text);
        }
        for (int o = 0; o < orders; o++) {
            text.append('o').append(random.nextInt(10)).append(1 + random.nextInt(9)).append(random.nextInt(10));
            blanks(text);
        }
        if (random.nextInt(4) == 0 && text.length() > 0) {
            String signs = "sdafmpox09 /:" + (char) 0 + (char) 160;
            text.setCharAt(random.nextInt(text.length()), signs.charAt(random.nextInt(signs.length())));
        }
        if (random.nextInt(8) == 0) {
            text.setLength(random.nextInt(text.length() + 1));
        }
        text.setLength(Math.min(60, text.length()));
        int t = random.nextInt(4);
        Check.write(mine, t, text.toString());
        model.text(t, text.length());
        for (int k = 0; k < text.length(); k++) {
            model.put(t, k, text.charAt(k));
        }
        used += 3 + text.length();
        c.due("fault of '" + text + "'", mine.fault(t), model.fault(t));
        c.due("guild of '" + text + "'", mine.guild(t), model.guild(t));
    }

    private void blanks(StringBuilder text) {
        text.append(" ".repeat(random.nextInt(6) == 0 ? random.nextInt(4) : 0));
    }

    /** Pairs as one SIGHER would have taken them, so that there is somebody whom it can have been. */
    private void layPairs() {
        int orders = model.count(1);
        int sighers = model.count(0);
        if (orders == 0) {
            return;
        }
        int r = random.nextInt(6);
        int pairs = random.nextInt(7);
        int i = random.nextInt(sighers);
        mine.row(r, 2 * pairs);
        model.row(r, 2 * pairs);
        for (int k = 0; k < pairs; k++) {
            int o = random.nextInt(orders);
            int breath = Math.max(0, model.takes(i, o));
            for (int[] v : new int[][] {{2 * k, o}, {2 * k + 1, breath}}) {
                mine.lay(r, v[0], v[1]);
                model.lay(r, v[0], v[1]);
            }
        }
        used += 4 + 2 * pairs;
        c.due("who(" + r + ")", mine.who(r), model.who(r));
        c.due("kinds(" + i + ", " + r + ")", mine.kinds(i, r), model.kinds(i, r));
        c.due("breaths(" + i + ", " + r + ")", mine.breaths(i, r), model.breaths(i, r));
    }
}
