import java.lang.reflect.InvocationTargetException;
import java.lang.reflect.Method;
import java.util.ArrayList;
import java.util.Comparator;
import java.util.List;
import java.util.Random;

/** LANGUAGE.md, rule 7: no call throws, for any arguments in any state; and what is seen keeps to its bounds. */
final class AnyArgumentsTest {
    private static final Checks CHECKS = new Checks();
    private static final int OBJECTS = 2000, MOST_CALLS = 460;
    private static final int LEAST = Integer.MIN_VALUE, MOST = Integer.MAX_VALUE;
    private static final int[] FAR = {LEAST, LEAST + 1, MOST - 1, MOST};

    public static void main(String[] args) throws IllegalAccessException {
        CHECKS.sentence("No call may ever throw by itself (only by a throw statement) or fail to end");
        List<Method> calls = new ArrayList<>();
        for (Method method : BattleBench.class.getDeclaredMethods()) {
            if (java.lang.reflect.Modifier.isPublic(method.getModifiers())) {
                calls.add(method);
            }
        }
        calls.sort(Comparator.comparing(Method::getName));
        for (int object = 0; object < OBJECTS; object++) {
            use(new BattleBench(), calls, new Random(object), object % 4);
        }
        CHECKS.end();
    }

    /** The wilder, the more arguments lie outside of all bounds. */
    private static void use(BattleBench x, List<Method> calls, Random random, int wild) throws IllegalAccessException {
        if (wild < 3) {
            Checks.read(x, "p60.350,h55.014,u41.902,d47.673,r58.186,p59.248");
        }
        // Short runs for the most part: in long ones nobody lives to the end.
        int most = random.nextInt(10) == 0 ? MOST_CALLS : 60;
        for (int n = 0; n < most; n++) {
            Method call = calls.get(random.nextInt(calls.size()));
            Object[] arguments = new Object[call.getParameterCount()];
            for (int a = 0; a < arguments.length; a++) {
                int v = argument(random, wild);
                boolean isLong = call.getParameterTypes()[a] == long.class;
                arguments[a] = isLong ? (Object) (random.nextBoolean() ? random.nextLong() : (long) v) : (Object) v;
            }
            try {
                call.invoke(x, arguments);
            } catch (InvocationTargetException thrown) {
                CHECKS.due(call.getName() + java.util.Arrays.toString(arguments) + " threw " + thrown.getCause(), 1, 0);
            }
        }
        bounds(x);
    }

    private static int argument(Random random, int wild) {
        int sort = random.nextInt(12);
        if (sort < wild) {
            return FAR[random.nextInt(FAR.length)];
        }
        return sort < 2 * wild ? random.nextInt(140) - 10 : random.nextInt(6) - (sort == 11 ? 2 : 0);
    }

    private static void bounds(BattleBench x) {
        int men = x.count(0);
        int seated = x.count(1);
        CHECKS.due("0 to 6 men", men >= 0 && men <= 6 ? 1 : 0, 1);
        CHECKS.due("as many sit as are there", Integer.bitCount(x.count(3)), seated);
        CHECKS.due("no seat behind the last", x.seat(seated), -4);
        int alive = 0;
        for (int man = 0; man < men; man++) {
            int life = x.of(man, 1);
            CHECKS.due("life 0 to 60", life >= 0 && life <= 60 ? 1 : 0, 1);
            CHECKS.due("who has life sits", x.of(man, 2) >= 0 ? 1 : 0, life > 0 ? 1 : 0);
            alive += life > 0 ? 1 : 0;
        }
        CHECKS.due("all who live sit", seated, alive);
        CHECKS.due("8 at most are known", x.count(6) >= 0 && x.count(6) <= 8 ? 1 : 0, 1);
        CHECKS.due("year 0 to 9999", x.count(2) >= 0 && x.count(2) <= 9999 ? 1 : 0, 1);
    }
}
