import java.lang.reflect.InvocationTargetException;
import java.lang.reflect.Method;
import java.util.ArrayList;
import java.util.List;
import java.util.Random;

/** Any arguments in any state: no call throws but element, and that only what the document says of its arguments. */
public final class WildCallsTest {
    private static final int RUNS = 400;
    private static final int CALLS = 512;
    private static final int[] WILD = {Integer.MIN_VALUE, Integer.MIN_VALUE + 1, -65536, -129, -128, -3, -2, -1, 5, 6, 8, 10,
        59, 60, 61, 72, 99, 100, 101, 127, 128, 999, 1000, 65536, Integer.MAX_VALUE - 1, Integer.MAX_VALUE};

    private static List<Method> face() {
        List<Method> all = new ArrayList<>();
        for (Method m : EngagedByDeputy.class.getDeclaredMethods()) {
            if (java.lang.reflect.Modifier.isPublic(m.getModifiers())) {
                all.add(m);
            }
        }
        all.sort((a, b) -> a.getName().compareTo(b.getName()));
        return all;
    }

    private static boolean isDue(Method m, Throwable thrown, int shelf) {
        boolean noSuchShelf = shelf < 0 || shelf > 7;
        Class<?> due = noSuchShelf ? IllegalArgumentException.class : IllegalStateException.class;
        return m.getName().equals("element") && thrown.getClass() == due;
    }

    public static void main(String[] args) throws Exception {
        Due due = new Due();
        List<Method> face = face();
        for (int seed = 0; seed < RUNS; seed++) {
            Random random = new Random(seed);
            int wildness = 1 + random.nextInt(12);
            EngagedByDeputy x = seed % 2 == 0 ? new EngagedByDeputy()
                : Rows.told("m11;m32;m43;m54;w05;w26;w37;w48;w59;d001;d012;d102;d124;c00;c11;c02;c23;s30;");
            boolean all = true;
            for (int i = 0; i < CALLS; i++) {
                Method m = face.get(random.nextInt(face.size()));
                Object[] arguments = new Object[m.getParameterCount()];
                for (int k = 0; k < arguments.length; k++) {
                    boolean wild = random.nextInt(wildness) == 0;
                    arguments[k] = wild ? WILD[random.nextInt(WILD.length)] : random.nextInt(6);
                }
                try {
                    m.invoke(x, arguments);
                } catch (InvocationTargetException e) {
                    if (!isDue(m, e.getCause(), (Integer) arguments[0])) {
                        all = false;
                        System.out.println(m.getName() + java.util.Arrays.toString(arguments) + " threw " + e.getCause());
                    }
                }
            }
            due.holds("run " + seed + " throws nothing else", all);
        }
        due.end();
    }
}
