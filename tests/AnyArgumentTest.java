import java.lang.reflect.InvocationTargetException;
import java.lang.reflect.Method;
import java.util.Arrays;
import java.util.Comparator;
import java.util.Random;

/**
 * Calls by chance (always the same ones) with any arguments in any state: what is thrown is what the call declares,
 * thrown by the call itself, and a call that throws changes nothing that the checksum tells.
 */
public final class AnyArgumentTest {

    private static final int[] ODD = {0, 1, 2, 3, 4, 5, 6, 7, 8, 9, 10, 24, 36, 63, 64, 65, 300, 301, -1, -2, -8, -64,
        255, 256, 65535, 65536, Integer.MAX_VALUE, Integer.MIN_VALUE, Integer.MAX_VALUE - 1, Integer.MIN_VALUE + 1};
    private static final String SIGNS = "asocdfn-xewz A";
    private static int wrong = 0;
    private static int calls = 0;
    private static int thrown = 0;

    public static void main(String[] args) throws Exception {
        Method[] face = Arrays.stream(Tilecount.class.getDeclaredMethods())
            .filter(method -> java.lang.reflect.Modifier.isPublic(method.getModifiers()))
            .sorted(Comparator.comparing(Method::getName)).toArray(Method[]::new);
        for (int seed = 0; seed < 400; seed++) {
            run(face, new Random(seed));
        }
        System.out.println(calls + " calls, " + thrown + " of them throw, " + wrong + " wrong");
        if (wrong > 0) {
            System.exit(1);
        }
    }

    private static void run(Method[] face, Random chance) throws Exception {
        Tilecount tiles = new Tilecount();
        if (chance.nextBoolean()) {
            tiles.board(1 + chance.nextInt(8), 1 + chance.nextInt(8));
        }
        for (int i = 0; i < 250; i++) {
            Method method = face[chance.nextInt(face.length)];
            if (method.getName().equals("board") && chance.nextInt(4) > 0) {
                continue;
            }
            Object[] given = arguments(method, chance);
            long before = tiles.checksum();
            calls++;
            try {
                method.invoke(tiles, given);
            } catch (InvocationTargetException e) {
                thrown++;
                Class<?> type = e.getCause().getClass();
                boolean isDeclared = Arrays.asList(method.getExceptionTypes()).contains(type);
                boolean isOwn = e.getCause().getStackTrace()[0].getMethodName().equals(method.getName());
                if (!isDeclared || !isOwn || tiles.checksum() != before) {
                    wrong++;
                    System.out.println(method.getName() + Arrays.toString(given) + " threw " + e.getCause()
                        + (tiles.checksum() != before ? " and changed something" : ""));
                }
            }
        }
    }

    private static Object[] arguments(Method method, Random chance) {
        Class<?>[] types = method.getParameterTypes();
        Object[] given = new Object[types.length];
        for (int i = 0; i < types.length; i++) {
            int odd = chance.nextInt(3) > 0 ? chance.nextInt(8) : ODD[chance.nextInt(ODD.length)];
            if (types[i] == boolean.class) {
                given[i] = chance.nextBoolean();
            } else if (types[i] == char.class) {
                given[i] = chance.nextInt(8) > 0 ? SIGNS.charAt(chance.nextInt(SIGNS.length())) : (char) odd;
            } else if (types[i] == long.class) {
                given[i] = chance.nextBoolean() ? chance.nextLong() : (long) odd;
            } else {
                given[i] = odd;
            }
        }
        return given;
    }
}
