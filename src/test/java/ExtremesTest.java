import java.lang.reflect.InvocationTargetException;
import java.lang.reflect.Method;
import java.lang.reflect.Modifier;
import java.util.ArrayList;
import java.util.Comparator;
import java.util.List;

/** Any numbers in any state: each call ends, and throws by itself what its face tells, or nothing. */
final class ExtremesTest {
    private static final int OBJECTS = 400;
    private static final int CALLS = 512;
    private static final int[] NUMBERS = {
        Integer.MIN_VALUE, Integer.MIN_VALUE + 1, -1000000000, -40001, -40000, -365, -2, -1, 0, 0, 0, 1, 1, 2, 3, 4, 5, 6, 7, 9, 12, 16, 17,
        20, 23, 24, 25, 30, 31, 60, 61, 64, 79, 80, 99, 100, 119, 120, 149, 150, 200, 255, 256, 400, 401, 1000, 1001, 10000, 10001,
        1000000000, Integer.MAX_VALUE - 1, Integer.MAX_VALUE,
    };
    private static long seed = 20261119;

    public static void main(String[] args) throws IllegalAccessException {
        List<Method> methods = new ArrayList<>();
        for (Method m : PassportOffice.class.getDeclaredMethods()) {
            if (Modifier.isPublic(m.getModifiers())) methods.add(m);
        }
        methods.sort(Comparator.comparing(Method::getName));
        Check.same("methods of the face", 33, methods.size());
        for (int i = 0; i < OBJECTS; i++) {
            PassportOffice x = begun(i);
            int made = i % 4 == 0 ? 0 : 320;
            for (; made < CALLS; made++) call(x, methods.get(pick(methods.size())));
        }
        Check.close();
    }

    private static int pick(int n) {
        seed = seed * 6364136223846793005L + 1442695040888963407L;
        return (int) ((seed >>> 33) % n);
    }

    private static PassportOffice begun(int i) {
        if (i % 4 == 0) return new PassportOffice();
        if (i % 4 == 1) return Busy.office();
        if (i % 4 == 2) return Full.booklets(150);
        PassportOffice x = Scene.ready(80);
        for (int k = 0; k < 12; k++) Check.law(x, 0, "need deed if valid;see if age>1;risk 9999;years 9999;fee 9999;back 9999");
        for (int k = 0; k < 120; k++) x.ask(k % 80, k % 4, 1000, k, k % 3 == 0);
        return x;
    }

    private static void call(PassportOffice x, Method m) throws IllegalAccessException {
        Object[] given = new Object[m.getParameterCount()];
        StringBuilder text = new StringBuilder(m.getName());
        for (int i = 0; i < given.length; i++) {
            if (m.getParameterTypes()[i] == boolean.class) given[i] = pick(2) == 0;
            else given[i] = NUMBERS[pick(NUMBERS.length)];
            text.append(' ').append(given[i]);
        }
        try {
            m.invoke(x, given);
        } catch (InvocationTargetException e) {
            Throwable thrown = e.getCause();
            boolean told = List.of(m.getExceptionTypes()).contains(thrown.getClass());
            Check.yes(text + " throws what its face tells, not " + thrown, told);
            Check.yes(text + " throws it by itself",
                thrown instanceof RuntimeException && Check.isThrownByTheProgram((RuntimeException) thrown));
        }
    }
}
