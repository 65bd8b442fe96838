import java.lang.reflect.InvocationTargetException;
import java.lang.reflect.Method;
import java.lang.reflect.Modifier;
import java.util.Arrays;
import java.util.Comparator;
import java.util.List;
import java.util.Random;

/**
 * Every call, with numbers at and beyond all bounds, in many states: none throws, and what is refused changes nothing (this
 * up to the 512th call of an object, for what later ones answer is free; those are not to throw either).
 */
public final class ExtremesTest {
    private static final int[] NUMBERS = {
        Integer.MIN_VALUE, Integer.MIN_VALUE + 1, -2147483, -256, -129, -128, -10, -9, -4, -3, -2, -1, 0, 1, 2, 3, 4, 5, 6, 7, 8, 9,
        10, 11, 12, 13, 19, 20, 21, 31, 39, 40, 41, 79, 80, 81, 99, 100, 101, 127, 128, 255, 256, 510, 512, 542, 552, 600, 9999, 10000,
        2147483, 1073741823, 1073741824, Integer.MAX_VALUE - 1, Integer.MAX_VALUE};
    private static final int STEPS = 60, ROUNDS = 600, STATES = 6;
    private static final int MOST_PROMISED_CALLS = 512, MOST_CALLS_OF_A_STATE = 150, CALLS_OF_A_LOOK = 4;
    private static final List<Method> METHODS = Arrays.stream(KissClearing.class.getDeclaredMethods())
            .filter(method -> Modifier.isPublic(method.getModifiers())).sorted(Comparator.comparing(Method::getName)).toList();

    private static int made = 0;
    private static int looked = 0;
    private static int wrong = 0;

    public static void main(String[] args) throws IllegalAccessException {
        Random lots = new Random(7);
        for (int round = 0; round < ROUNDS; round++) {
            for (int state = 0; state < STATES; state++) {
                KissClearing x = inState(state);
                made = MOST_CALLS_OF_A_STATE;
                for (int i = 0; i < STEPS; i++) {
                    calls(x, lots);
                }
            }
        }
        System.out.println(wrong == 0 ? looked + " calls neither threw nor changed what they refused" : wrong + " calls are wrong");
        if (wrong != 0) {
            System.exit(1);
        }
    }

    private static KissClearing inState(int state) {
        switch (state) {
            case 0:
                return new KissClearing();
            case 1:
                return Due.village("pp");
            case 2:
                return Due.full(Due.village("pasbgi x01t9 x12t9 x20t9"), 3, 4);
            case 3:
                return Due.village("agagag" + " x01h9".repeat(4) + " x12h9".repeat(4) + " x20h9".repeat(4));
            case 4:
                KissClearing kept = Due.village("ppi x01h1 x12h2 x20h3");
                kept.week();
                kept.keep(0);
                Due.fill(kept, 0, 0, 1, 2);
                Due.fill(kept, 5, 100, 100, 100, 100, 100, 100);
                return kept;
            default:
                KissClearing rows = Due.village("gi x01c9");
                for (int r = 0; r < 6; r++) {
                    rows.row(r, r == 0 ? 0 : r == 5 ? 40 : r);
                }
                rows.text(0, 80);
                rows.text(1, 0);
                return rows;
        }
    }

    /** Calls of some of the methods, with numbers by lots. */
    private static void calls(KissClearing x, Random lots) throws IllegalAccessException {
        for (Method method : METHODS) {
            if (lots.nextInt(20) == 0) {
                Object[] numbers = new Object[method.getParameterCount()];
                for (int i = 0; i < numbers.length; i++) {
                    numbers[i] = lots.nextBoolean() ? lots.nextInt(7) : NUMBERS[lots.nextInt(NUMBERS.length)];
                }
                call(x, method, numbers);
            }
        }
    }

    private static void call(KissClearing x, Method method, Object[] numbers) throws IllegalAccessException {
        looked++;
        String told = method.getName() + Arrays.toString(numbers);
        long[] before = seen(x);
        try {
            Object answer = method.invoke(x, numbers);
            long[] behind = seen(x);
            made += 1 + 2 * CALLS_OF_A_LOOK;
            boolean tellsOnly = method.getParameterCount() == 0 && !method.getName().matches("week|worst|pairs|rounds|mistletoe|odds");
            if (made <= MOST_PROMISED_CALLS && !tellsOnly && answer instanceof Integer number && number < 0) {
                look(told + " is no refusal: " + number, number >= -4 || number == -9);
                look(told + " was refused, but changed something", Arrays.equals(before, behind));
            }
        } catch (InvocationTargetException thrown) {
            look(told + " threw " + thrown.getCause(), false);
        }
    }

    private static long[] seen(KissClearing x) {
        return new long[] {x.digest(), x.asked(), x.upper(), x.lower()};
    }

    private static void look(String what, boolean holds) {
        if (!holds) {
            wrong++;
            System.out.println(what);
        }
    }
}
