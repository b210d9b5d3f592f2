import java.lang.reflect.InvocationTargetException;
import java.lang.reflect.Method;
import java.lang.reflect.Modifier;
import java.util.Arrays;
import java.util.Comparator;

/** Every call with every mixture of numbers on and around its limits, in states of each sort, held against Model. */
public final class WildTest {
    private static final int[] NUMBERS = {Integer.MIN_VALUE, -9, -1, 0, 1, 2, 3, 4, 5, 6, 9, 10, 12, 13, 20, 21, 30, 31,
        40, 41, 60, 61, 63, 64, 66, 67, Integer.MAX_VALUE - 1, Integer.MAX_VALUE};
    /** For copy(), whose five numbers would make too many mixtures of all. */
    private static final int[] FEWER = {Integer.MIN_VALUE, -1, 0, 1, 4, 5, 6, 40, Integer.MAX_VALUE};
    private static final String[] STATES = {"", "s90 o019", "d41 f02 p72 a36 m19 o210 o471 o935 o093 o064 o558"};
    /** What the document promises ends with an object's 512th call: each use takes 4, its making up to 110. */
    private static final int USES = 100;

    private final Check c = new Check();
    private final String text;
    private final int deeds;
    private SighGuild mine;
    private Model model;
    private int used;

    private WildTest(String text, int deeds) {
        this.text = text;
        this.deeds = deeds;
    }

    public static void main(String[] args) throws ReflectiveOperationException {
        Method[] calls = Arrays.stream(SighGuild.class.getDeclaredMethods())
                .filter(m -> Modifier.isPublic(m.getModifiers())).toArray(Method[]::new);
        Arrays.sort(calls, Comparator.comparing(Method::getName));
        for (String text : STATES) {
            for (int deeds : text.isEmpty() ? new int[] {0} : new int[] {0, 39, 40}) {
                WildTest t = new WildTest(text, deeds);
                for (Method call : calls) {
                    t.used = USES;
                    t.mix(call, new Object[call.getParameterCount()], 0);
                }
                t.c.end("WildTest of '" + text + "' and " + deeds + " DEEDS");
            }
        }
    }

    private void renew() throws ReflectiveOperationException {
        mine = new SighGuild();
        model = new Model();
        used = 0;
        said("text", 0, text.length());
        for (int k = 0; k < text.length(); k++) {
            said("put", 0, k, (int) text.charAt(k));
        }
        said("guild", 0);
        said("row", 0, 5);
        said("row", 1, 0);
        said("row", 2, 40);
        said("row", 3, 2);
        said("lay", 3, 1, 1);
        said("text", 1, 60);
        said("text", 2, 0);
        for (int d = 0; d < deeds; d++) {
            said("walk", 0, d % 2 == 0 ? 3 : 0);
        }
        said("keep", 1);
    }

    private void said(String name, Object... numbers) throws ReflectiveOperationException {
        Class<?>[] types = new Class<?>[numbers.length];
        Arrays.fill(types, int.class);
        SighGuild.class.getMethod(name, types).invoke(mine, numbers);
        Model.class.getMethod(name, types).invoke(model, numbers);
    }

    private void mix(Method call, Object[] numbers, int from) throws ReflectiveOperationException {
        if (from == numbers.length) {
            both(call, numbers);
            return;
        }
        for (int v : numbers.length > 3 ? FEWER : NUMBERS) {
            numbers[from] = v;
            mix(call, numbers, from + 1);
        }
    }

    private void both(Method call, Object[] numbers) throws ReflectiveOperationException {
        if (used >= USES) {
            renew();
        }
        used++;
        Method other = Model.class.getMethod(call.getName(), call.getParameterTypes());
        String said = call.getName() + Arrays.toString(numbers);
        try {
            c.due(said, ((Number) call.invoke(mine, numbers)).longValue(),
                    ((Number) other.invoke(model, numbers)).longValue());
        } catch (InvocationTargetException e) {
            System.out.println(said + " threw " + e.getCause());
            c.due(said, 1, 0);
        }
        c.due(said + " digest()", mine.digest(), model.digest());
        c.due(said + " told", mine.finding() * 1000L + mine.asked(), model.finding() * 1000L + model.asked());
    }
}
