import java.lang.reflect.InvocationTargetException;
import java.lang.reflect.Method;
import java.util.ArrayList;
import java.util.Comparator;
import java.util.List;
import java.util.NoSuchElementException;
import java.util.Random;

/** Any call with any arguments in any state answers, and throws nothing but what row() may throw. */
final class AnyArgumentsTest {
    private static final int OBJECTS = 1500;
    private static final int CALLS = 300;
    private static final int[] ARGUMENTS = {Integer.MIN_VALUE, Integer.MIN_VALUE + 1, -65536, -22, -2, -1, 0, 0, 1, 1, 2, 3, 4, 5, 6, 7,
        8, 10, 11, 12, 13, 19, 20, 29, 30, 31, 32, 33, 99, 199, 200, 201, 998, 999, 1000, 99999, 100000, 999999, 1000000,
        Integer.MAX_VALUE - 1, Integer.MAX_VALUE};
    private static final String[] TEXTS = {"", "0-1", "0-1-2", "2-1-0-3-4-5-6-7", "11-10", "0:1", "0:999,1:1", "00|", "|", ",", "-", ":",
        "0", "0-", "0-1:", "00||999999", "5:999,5:999,5:999,5:999,5:999,5:999,5:999,5:999", EdgesOfTermsTest.LINE, Desk.NET,
        "00|4294967296-1:1", "0-4294967297", "0:4294967297", "99999999999999999999", "00||99999999999999999999"};

    private final Check check;
    private final Random random;
    private final List<Method> calls;

    private AnyArgumentsTest(Check check, int seed, List<Method> calls) {
        this.check = check;
        this.random = new Random(seed);
        this.calls = calls;
    }

    public static void main(String[] args) throws IllegalAccessException {
        Check check = new Check("AnyArgumentsTest");
        List<Method> calls = new ArrayList<>();
        for (Method m : TransitSeals.class.getDeclaredMethods()) {
            if (java.lang.reflect.Modifier.isPublic(m.getModifiers())) {
                calls.add(m);
            }
        }
        calls.sort(Comparator.comparing(Method::getName));
        for (int seed = 0; seed < OBJECTS; seed++) {
            new AnyArgumentsTest(check, seed, calls).go();
        }
        check.close();
    }

    private void go() throws IllegalAccessException {
        Desk d = random.nextBoolean() ? Twins.busy(check) : new Desk(check);
        for (int i = 0; i < CALLS; i++) {
            if (random.nextInt(8) == 0) {
                d.text(TEXTS[random.nextInt(TEXTS.length)]);
                i += 60;
            }
            call(d.x, calls.get(random.nextInt(calls.size())));
        }
    }

    private void call(TransitSeals x, Method m) throws IllegalAccessException {
        Object[] arguments = new Object[m.getParameterCount()];
        StringBuilder call = new StringBuilder(m.getName());
        for (int i = 0; i < arguments.length; i++) {
            int a = random.nextInt(6) == 0 ? random.nextInt() : ARGUMENTS[random.nextInt(ARGUMENTS.length)];
            arguments[i] = a;
            call.append(' ').append(a);
        }
        String thrown = "nothing";
        try {
            m.invoke(x, arguments);
        } catch (InvocationTargetException e) {
            boolean may = m.getName().equals("row") && e.getCause().getClass() == NoSuchElementException.class;
            thrown = may ? "nothing" : e.getCause().toString();
        }
        check.due(call + " throws", thrown, "nothing");
    }
}
