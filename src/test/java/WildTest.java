import java.lang.reflect.InvocationTargetException;
import java.lang.reflect.Method;
import java.lang.reflect.Modifier;
import java.util.function.Supplier;

/**
 * Every public method with every combination of far and near numbers, in several states: no call
 * throws, and an answer below 0 is one that the document names.
 */
final class WildTest {
    private static final int[] NUMBERS = {Integer.MIN_VALUE, -65536, -2, -1, 0, 1, 2, 3, 6, 7, 8, 9, 20,
        21, 39, 40, 127, 128, 160, 65536, Integer.MAX_VALUE};
    private static final int[] FEWER = {Integer.MIN_VALUE, -1, 0, 1, 3, 6, 7, 20, Integer.MAX_VALUE};

    private WildTest() {
    }

    public static void main(String[] args) throws IllegalAccessException {
        hammer("a new object", ClauseDrafts::new);
        hammer("a rich object", ErrorEdges::rich);
        hammer("full drafts", ErrorEdges::full);
        manyCalls();
        Check.finish();
    }

    private static void hammer(String state, Supplier<ClauseDrafts> make) throws IllegalAccessException {
        for (Method method : ClauseDrafts.class.getDeclaredMethods()) {
            if (Modifier.isPublic(method.getModifiers())) {
                int length = method.getParameterCount();
                int[] numbers = length > 3 ? FEWER : NUMBERS;
                ClauseDrafts x = make.get();
                int[] places = new int[length];
                boolean more = true;
                while (more) {
                    call(state, method, x, numbers, places);
                    more = next(places, numbers.length);
                }
            }
        }
    }

    private static boolean next(int[] places, int end) {
        for (int i = 0; i < places.length; i++) {
            places[i]++;
            if (places[i] < end) {
                return true;
            }
            places[i] = 0;
        }
        return false;
    }

    private static void call(String state, Method method, ClauseDrafts x, int[] numbers, int[] places)
            throws IllegalAccessException {
        Object[] arguments = new Object[places.length];
        for (int i = 0; i < places.length; i++) {
            arguments[i] = numbers[places[i]];
        }
        String call = state + ": " + method.getName() + java.util.Arrays.toString(arguments);
        try {
            int got = (Integer) method.invoke(x, arguments);
            boolean isNamed = got >= -4 || got <= -11 && got >= -14 || got <= -20 && got >= -25;
            boolean isPlace = method.getName().equals("text") && got <= -10 && got >= -170;
            Check.holds(call + " answered " + got, isNamed || isPlace);
        } catch (InvocationTargetException e) {
            Check.holds(call + " threw " + e.getCause(), false);
        }
    }

    /** An object is made for 512 calls; what later ones answer is free, but they answer. */
    private static void manyCalls() {
        ClauseDrafts x = new ClauseDrafts();
        int calls = 0;
        while (calls < 508) {
            x.feed('<');
            x.end(0);
            x.add(0, 0);
            x.strike(0, 0);
            calls += 4;
        }
        Check.due("the last four of 512 calls", "1 2 0 0", x.feed('<'), x.feed('>'), x.text(), x.fault());
        for (int i = 0; i < 2000; i++) {
            Check.holds("a later call answers", x.feed(' ') >= -3);
        }
    }
}
