import java.lang.reflect.InvocationTargetException;
import java.lang.reflect.Method;
import java.util.Arrays;
import java.util.Comparator;

/**
 * Every call, with numbers at and beyond all bounds, on houses that are empty, in use and full: nothing but the
 * exceptions that the call names ever comes out, and the same calls give the same answers.
 */
public final class ExtremeTest {
    private static final int[] MANY = {
        Integer.MIN_VALUE, -2, -1, 0, 1, 2, 3, 4, 5, 6, 7, 12, 19, 20, 39, 40, 100, 101, 997, Integer.MAX_VALUE,
    };
    private static final int[] FEW = {Integer.MIN_VALUE, -1, 0, 1, 3, 5, 40, Integer.MAX_VALUE};
    private static final int EMPTY = 0;
    private static final int USED = 1;
    private static final int FULL = 2;
    private static final Bench BENCH = new Bench();

    private static KnotHouse house;
    private static KnotHouse twin;
    private static int calls;

    public static void main(String[] args) {
        Method[] face = Arrays.stream(KnotHouse.class.getMethods())
            .filter(method -> method.getDeclaringClass() == KnotHouse.class)
            .sorted(Comparator.comparing(Method::getName)).toArray(Method[]::new);
        BENCH.due("calls of the face", 39, () -> face.length);
        for (int state = EMPTY; state <= FULL; state++) {
            for (Method method : face) {
                begin(state);
                callAll(method, state);
            }
        }
        BENCH.finish();
    }

    private static void begin(int state) {
        house = made(state);
        twin = made(state);
        calls = 0;
    }

    private static KnotHouse made(int state) {
        KnotHouse made = new KnotHouse();
        if (state == EMPTY) {
            return made;
        }
        Bench.diagram(made, Bench.HOPF + ";");
        Bench.diagram(made, "o1+u1+o2-u2-;;;;;");
        Bench.closure(made, 3, "abABabABabAB");
        Bench.closure(made, 3, "aBaB");
        Bench.diagram(made, ";;;;;");
        Bench.braid(made, 2, "aaaaaaaaaaaaaaaa");
        Bench.braid(made, 3, "abA");
        Bench.braid(made, 4, "aBcaBc");
        Bench.braid(made, 5, "AbCdAbCdAb");
        made.moves(0, 3);
        made.summands(1);
        made.chain(3, 3);
        if (state == FULL) {
            Bench.fillDiagrams(made);
            Bench.fillBraids(made);
            for (int i = 0; i < 20; i++) {
                made.feed(-1, 0, 1, Integer.MIN_VALUE, Integer.MAX_VALUE);
            }
        }
        return made;
    }

    /** All ways to give the call its numbers. */
    private static void callAll(Method method, int state) {
        int count = method.getParameterCount();
        int[] values = count < 4 ? MANY : FEW;
        int ways = 1;
        for (int i = 0; i < count; i++) {
            ways *= values.length;
        }
        for (int way = 0; way < ways; way++) {
            Object[] numbers = new Object[count];
            int left = way;
            for (int i = 0; i < count; i++) {
                numbers[i] = values[left % values.length];
                left /= values.length;
            }
            // An object is good for 512 calls, of which the making of a full one takes more than 200.
            if (calls >= 250) {
                begin(state);
            }
            calls++;
            String name = method.getName() + Arrays.toString(numbers);
            String due = answer(method, twin, numbers);
            BENCH.due(name, due, () -> answer(method, house, numbers));
            BENCH.due(name + " is named", false, () -> due.startsWith("unnamed"));
        }
    }

    private static String answer(Method method, KnotHouse on, Object[] numbers) {
        try {
            return String.valueOf(method.invoke(on, numbers));
        } catch (InvocationTargetException e) {
            Class<?> thrown = e.getCause().getClass();
            boolean named = Arrays.asList(method.getExceptionTypes()).contains(thrown);
            return (named ? "" : "unnamed ") + thrown.getSimpleName();
        } catch (IllegalAccessException e) {
            return "unnamed, no such call";
        }
    }
}
