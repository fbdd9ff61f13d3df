import java.lang.reflect.InvocationTargetException;
import java.lang.reflect.Method;
import java.util.Arrays;
import java.util.Comparator;
import java.util.List;
import java.util.Random;

/** Calls by fixed seeds, in any order and with any arguments: each one throws what its face declares, or nothing. */
final class WildCallsTest {
    private static final int RUNS = 400;
    private static final int CALLS = 400;
    private static final int[] ENDS = {Integer.MIN_VALUE, Integer.MAX_VALUE, Integer.MIN_VALUE + 1, 1 << 30, -200, 201};
    private static final char[] SIGNS = {'a', 'b', 'c', 'g', 'y', 'r', 't', 's', 'n', 'z', 'A', (char) 0, (char) 65535};

    private final Random random;
    private final Raidline game;
    private final List<Method> face = Arrays.stream(Raidline.class.getDeclaredMethods())
        .filter(method -> java.lang.reflect.Modifier.isPublic(method.getModifiers()))
        .sorted(Comparator.comparing(Method::getName)).toList();

    private WildCallsTest(int seed) {
        random = new Random(seed);
        game = begun(seed);
    }

    static void run(Check check) throws IllegalAccessException {
        for (int seed = 0; seed < RUNS; seed++) {
            WildCallsTest test = new WildCallsTest(seed);
            check.is("wild run " + seed, test.firstFault(), "");
            check.is("isTrue() behind wild run " + seed, test.game.isTrue(), true);
        }
    }

    private static Raidline begun(int seed) {
        if (seed % 4 == 0) {
            return new Raidline();
        }
        if (seed % 4 == 1) {
            return Games.squads(4, 3, 5, 5, 5);
        }
        return Games.match(4, 5, 5, 1 + seed % 9, 3, 1, seed % 8 < 4, 2 + seed % 3 * 2);
    }

    private String firstFault() throws IllegalAccessException {
        for (int i = 0; i < CALLS; i++) {
            Method method = face.get(random.nextInt(face.size()));
            Object[] arguments = new Object[method.getParameterCount()];
            for (int j = 0; j < arguments.length; j++) {
                arguments[j] = any(method.getParameterTypes()[j]);
            }
            try {
                method.invoke(game, arguments);
            } catch (InvocationTargetException thrown) {
                Class<?> kind = thrown.getCause().getClass();
                if (!List.of(method.getExceptionTypes()).contains(kind)) {
                    return "call " + i + " " + method.getName() + Arrays.toString(arguments) + " throws " + thrown.getCause();
                }
            }
        }
        return "";
    }

    private Object any(Class<?> type) {
        if (type == boolean.class) {
            return random.nextBoolean();
        }
        if (type == char.class) {
            return SIGNS[random.nextInt(SIGNS.length)];
        }
        int choice = random.nextInt(20);
        if (choice == 0) {
            return ENDS[random.nextInt(ENDS.length)];
        }
        return choice < 4 ? random.nextInt(45) - 2 : random.nextInt(8);
    }
}
