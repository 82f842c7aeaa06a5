import java.lang.reflect.InvocationTargetException;
import java.lang.reflect.Method;
import java.lang.reflect.Modifier;
import java.util.Arrays;
import java.util.Comparator;
import java.util.List;
import java.util.Random;
import java.util.stream.Stream;

/** Rule 7 of LANGUAGE.md: no call throws, for any numbers, whatever came ahead. */
public final class NeverThrowsTest {
    private static final int[] NUMBERS = {Integer.MIN_VALUE, Integer.MIN_VALUE + 1, -1000, -1, 0, 0, 1, 1, 2, 3, 4, 5, 6, 7, 10, 15,
        20, 21, 30, 35, 39, 40, 41, 60, 61, 63, 64, 99, 100, 160, 255, 256, 999, 1000, 9999, 10000, 99999, 100000, 1000000,
        Integer.MAX_VALUE - 2, Integer.MAX_VALUE - 1, Integer.MAX_VALUE};
    private static final int OBJECTS = 300;
    /** Behind what begin() asks, with 512 in all. */
    private static final int CALLS = 460;
    private static final Check check = new Check();

    public static void main(String[] args) throws IllegalAccessException {
        List<Method> calls = Stream.of(HatsInRing.class.getDeclaredMethods())
            .filter(m -> Modifier.isPublic(m.getModifiers()))
            .sorted(Comparator.comparing(Method::getName)).toList();
        check.due(0, "methods", calls.size(), 35);
        Random lots = new Random(7);
        for (int i = 0; i < OBJECTS; i++) {
            HatsInRing x = new HatsInRing();
            begin(x, i);
            for (int k = 0; k < CALLS; k++) {
                ask(x, calls.get(lots.nextInt(calls.size())), lots);
            }
        }
        check.end();
    }

    /** Some objects begin empty, others in the midst of a fight. */
    private static void begin(HatsInRing x, int i) {
        if (i % 3 != 0) {
            Check.text(x, RandomText.of(new Random(i)));
            x.force(1);
            x.hat(14, 0, 9900);
            x.hat(27, 63, 5000);
            x.hat(49, 9, i);
            Check.sheet(x, 0, 99, 98);
            x.film(1, 1, 20);
            x.bell(i % 2 == 0 ? 0 : 998);
        }
    }

    private static void ask(HatsInRing x, Method call, Random lots) throws IllegalAccessException {
        Object[] numbers = new Object[call.getParameterCount()];
        boolean small = lots.nextBoolean();
        for (int i = 0; i < numbers.length; i++) {
            numbers[i] = small ? lots.nextInt(7) : NUMBERS[lots.nextInt(NUMBERS.length)];
        }
        try {
            call.invoke(x, numbers);
        } catch (InvocationTargetException e) {
            check.fail(call.getName() + Arrays.toString(numbers) + " threw " + e.getCause());
        }
    }
}
