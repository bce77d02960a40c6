import java.lang.reflect.InvocationTargetException;
import java.lang.reflect.Method;
import java.lang.reflect.Modifier;
import java.util.Arrays;
import java.util.Comparator;
import java.util.NoSuchElementException;
import java.util.Random;

/**
 * Whatever is called in whatever order: only cell, child and row throw, and only NoSuchElementException. An object is used
 * for more than 512 calls here: what it answers then is free, but LANGUAGE.md (rule 7) lets it throw nothing even so.
 */
public final class AnyCallsTest {
    private static final int[] EDGES = {Integer.MIN_VALUE, Integer.MIN_VALUE + 1, -257, -2, -1, 7, 8, 9, 11, 12, 13, 31, 32, 33, 80,
        81, 99, 100, 255, 256, 998, 999, 1000, 65536, Integer.MAX_VALUE - 1, Integer.MAX_VALUE};
    private static final String[] TEXTS = {"0|12|34", "123456789012", "7,4-;9,6a;13,8b", "4,1-;5,2a;6,3a;7,4c", "n*9+w", "(n>2)*99-m*c",
        "gaagbbb2w", "sasbtambw", "w", "999", "30+n*9"};

    public static void main(String[] args) throws IllegalAccessException {
        Due due = new Due();
        Method[] face = Arrays.stream(SandKeepsSea.class.getDeclaredMethods())
            .filter(m -> Modifier.isPublic(m.getModifiers())).toArray(Method[]::new);
        Arrays.sort(face, Comparator.comparing(Method::getName));
        for (int seed = 0; seed < 600; seed++) {
            Random random = new Random(seed);
            SandKeepsSea x = new SandKeepsSea();
            for (int call = 0; call < 512; call++) {
                if (random.nextInt(6) == 0) {
                    Bench.writeTo(x, TEXTS[random.nextInt(TEXTS.length)]);
                }
                due.be("seed " + seed, fault(x, face[random.nextInt(face.length)], random), "");
            }
        }
        due.end();
    }

    private static String fault(SandKeepsSea x, Method m, Random random) throws IllegalAccessException {
        Object[] values = new Object[m.getParameterCount()];
        for (int i = 0; i < values.length; i++) {
            values[i] = random.nextInt(5) > 0 ? random.nextInt(5) : random.nextInt(4) > 0
                ? EDGES[random.nextInt(EDGES.length)] : random.nextInt();
        }
        try {
            m.invoke(x, values);
            return "";
        } catch (InvocationTargetException e) {
            boolean may = m.getExceptionTypes().length == 1;
            boolean due = may && e.getCause().getClass() == NoSuchElementException.class;
            return due ? "" : m.getName() + Arrays.toString(values) + " throws " + e.getCause();
        }
    }
}
