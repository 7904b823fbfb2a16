import java.lang.reflect.InvocationTargetException;
import java.lang.reflect.Method;
import java.util.Arrays;
import java.util.Comparator;
import java.util.Random;

/** Calls with any numbers in any state, also far behind the 512th: none may throw, or make heaps below 0. */
public final class WildCallsTest {
    private static final int[] WILD = {Integer.MIN_VALUE, Integer.MIN_VALUE + 1, -0x40000000, -1000, -61, -60, -1, 5, 9,
        10, 14, 15, 20, 21, 59, 60, 61, 99, 100, 999, 1000, 0x40000000, Integer.MAX_VALUE - 1, Integer.MAX_VALUE};
    private static final String[] TEXTS = {"y20;p10;p10", "y3111;b19;d19;p19", "y53333333333;d39;d39;d09;b09;p09",
        "y50100011010;d09;d09;d09;d19;d09", "y21;p", "y20;p10;p00"};

    public static void main(String[] args) throws IllegalAccessException {
        Method[] all = ToppleYard.class.getDeclaredMethods();
        all = Arrays.stream(all).filter(m -> java.lang.reflect.Modifier.isPublic(m.getModifiers())).toArray(Method[]::new);
        Arrays.sort(all, Comparator.comparing(Method::getName));
        Random random = new Random(4711);
        for (int run = 0; run < 120; run++) {
            ToppleYard x = new ToppleYard();
            for (int call = 0; call < 3000; call++) {
                if (random.nextInt(300) == 0) {
                    Check.yardOf(x, TEXTS[random.nextInt(TEXTS.length)]);
                }
                callOne(x, all[random.nextInt(all.length)], random);
            }
            for (int p = 0; p < x.many(0); p++) {
                Check.dueTrue("heap " + p + " is no less than 0", x.ofPlace(p, 2) >= 0);
            }
        }
        Check.end("WildCallsTest");
    }

    private static void callOne(ToppleYard x, Method m, Random random) throws IllegalAccessException {
        Object[] numbers = new Object[m.getParameterCount()];
        int wild = random.nextInt(4);
        for (int a = 0; a < numbers.length; a++) {
            boolean any = wild == 0 && random.nextBoolean();
            numbers[a] = any ? WILD[random.nextInt(WILD.length)] : random.nextInt(random.nextInt(5) == 0 ? 100 : 4);
        }
        boolean thrown = false;
        try {
            m.invoke(x, numbers);
        } catch (InvocationTargetException e) {
            thrown = true;
        }
        Check.dueTrue(m.getName() + Arrays.toString(numbers) + " throws nothing", !thrown);
    }
}
