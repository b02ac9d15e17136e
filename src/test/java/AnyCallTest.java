import java.lang.reflect.InvocationTargetException;
import java.lang.reflect.Method;
import java.util.Arrays;
import java.util.Comparator;
import java.util.Random;

/**
 * Whatever numbers come in whatever order, no call throws, not even behind the 512th, whose answers are free; and an
 * object's numbers stay within the document's limits.
 */
public final class AnyCallTest {
    private static final int[] ODD = {Integer.MIN_VALUE, Integer.MIN_VALUE + 1, -65, -64, -2, -1, 0, 1, 2, 3, 15, 16, 17, 39,
        40, 41, 50, 51, 64, 200, 201, 250, 251, 255, 256, 300, 400, 3250, Integer.MAX_VALUE - 1, Integer.MAX_VALUE};

    public static void main(String[] args) throws IllegalAccessException {
        Due due = new Due();
        Method[] calls = GrowingTiles.class.getDeclaredMethods();
        Arrays.sort(calls, Comparator.comparing(Method::getName));
        for (int run = 0; run < 300; run++) {
            Random random = new Random(run);
            GrowingTiles x = new GrowingTiles();
            for (int i = 0; i < 600; i++) {
                if (i == 500) {
                    lookAt(due, x);
                }
                Method call = calls[random.nextInt(calls.length)];
                if (java.lang.reflect.Modifier.isPublic(call.getModifiers())) {
                    due.is("run " + run + ": " + call.getName(), answers(x, call, random), true);
                }
            }
        }
        due.end();
    }

    private static void lookAt(Due due, GrowingTiles x) {
        int pieces = x.about(0);
        int onSheet = x.about(1);
        int steps = x.about(3);
        int undoable = x.about(4);
        due.is("29: PIECES", pieces >= 0 && pieces <= 40, true);
        due.is("29: on THE SHEET", onSheet >= 0 && onSheet <= 256, true);
        due.is("29: to be UNDONE", undoable >= 0 && undoable <= Math.min(200, steps), true);
        due.is("21: SHAPES", x.ways(0) <= 300, true);
    }

    private static boolean answers(GrowingTiles x, Method call, Random random) throws IllegalAccessException {
        Class<?>[] types = call.getParameterTypes();
        Object[] numbers = new Object[types.length];
        boolean small = random.nextInt(4) != 0;
        for (int i = 0; i < numbers.length; i++) {
            int number = small ? random.nextInt(16) : ODD[random.nextInt(ODD.length)];
            if (call.getName().equals("glue") || call.getName().equals("piece")) {
                number = small ? random.nextInt(4) : number;
            }
            numbers[i] = types[i] == long.class ? (Object) (long) number : (Object) number;
        }
        try {
            call.invoke(x, numbers);
            return true;
        } catch (InvocationTargetException thrown) {
            System.out.println(call.getName() + Arrays.toString(numbers) + " threw " + thrown.getCause());
            return false;
        }
    }
}
