import java.lang.reflect.InvocationTargetException;
import java.lang.reflect.Method;
import java.lang.reflect.Modifier;
import java.util.ArrayList;
import java.util.Comparator;
import java.util.List;
import java.util.Random;

/** Any arguments in any state: no call may throw. */
public final class NeverThrowsTest {
    private static final int RUNS = 300;
    private static final int CALLS = 512;
    private static final int[] FAR = {
        Integer.MIN_VALUE, Integer.MIN_VALUE + 9, -1000, -21, -1, 41, 61, 128, 161, 1 << 16,
        Integer.MAX_VALUE - 1, Integer.MAX_VALUE};
    private static final String[] TEXTS = {
        "", "wed 0 4;fold 0 4;vain left 9 9 2;vain right 9 9 2;run 0;run 4;",
        "vain left 9 9 2;vain left 9 9 2;vain left 0 0 0;vain left 1 1 1;vain right 0 0 0;vain right 9 9 0;"
            + "vain right 0 0 0;vain right 9 0 0;run 3;run 7;pen 3 7;"};

    public static void main(String[] args) throws IllegalAccessException {
        Due due = new Due("NeverThrowsTest");
        Random random = new Random(7);
        List<Method> calls = publicCalls();
        for (int run = 0; run < RUNS; run++) {
            HandMarket market = new HandMarket();
            for (char c : TEXTS[run % TEXTS.length].toCharArray()) {
                market.feed(c);
            }
            due.isTrue("text " + run % TEXTS.length, market.text() >= 0);
            for (int i = 0; i < CALLS; i++) {
                Method call = calls.get(random.nextInt(calls.size()));
                Object[] with = arguments(call, random);
                try {
                    call.invoke(market, with);
                } catch (InvocationTargetException e) {
                    due.isTrue(call.getName() + java.util.Arrays.toString(with) + " threw " + e.getCause(), false);
                }
            }
        }
        due.close();
    }

    private static List<Method> publicCalls() {
        List<Method> calls = new ArrayList<>();
        for (Method m : HandMarket.class.getDeclaredMethods()) {
            if (Modifier.isPublic(m.getModifiers())) {
                calls.add(m);
            }
        }
        // the order of reflection is not promised, and runs are to be the same each time
        calls.sort(Comparator.comparing(Method::getName));
        return calls;
    }

    private static Object[] arguments(Method call, Random random) {
        Object[] with = new Object[call.getParameterCount()];
        for (int i = 0; i < with.length; i++) {
            if (call.getParameterTypes()[i] == boolean.class) {
                with[i] = random.nextBoolean();
            } else {
                with[i] = random.nextInt(4) == 0 ? FAR[random.nextInt(FAR.length)] : random.nextInt(18);
            }
        }
        return with;
    }
}
