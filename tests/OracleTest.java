import java.lang.reflect.InvocationTargetException;
import java.lang.reflect.Method;
import java.util.ArrayList;
import java.util.LinkedHashMap;
import java.util.List;
import java.util.Map;
import java.util.Random;

/** Random runs of calls, each answered by the class and by the plain model: the answers must be the same. */
public final class OracleTest {
    private static final int RUNS = 700;
    private static final int CALLS = 220;
    private static final int[] ODD = {-1, -2, 5, 6, 7, 8, 9, 10, 60, 61, 99, 100, 101, 999, 1000, Integer.MIN_VALUE,
        Integer.MAX_VALUE};

    /** For each call the highest ordinary value of each argument. */
    private static final Map<String, int[]> CALLED = new LinkedHashMap<>();

    static {
        CALLED.put("one", new int[] {1, 4, 4});
        CALLED.put("grows", new int[] {1, 4, 1});
        CALLED.put("retells", new int[] {1, 4, 99});
        CALLED.put("comes", new int[] {7, 1});
        CALLED.put("likes", new int[] {1, 4, 4});
        CALLED.put("like", new int[] {1, 4, 4, 99});
        CALLED.put("sends", new int[] {1, 4, 4});
        CALLED.put("couple", new int[] {4, 4});
        CALLED.put("about", new int[] {3, 5});
        CALLED.put("who", new int[] {5, 2});
        CALLED.put("slip", new int[] {99});
        CALLED.put("days", new int[] {6});
        CALLED.put("fate", new int[] {3, 60, 3});
        CALLED.put("then", new int[] {1, 4, 4, 60});
        CALLED.put("bound", new int[] {1, 4, 60});
        CALLED.put("slips", new int[] {60, 1});
        CALLED.put("soonest", new int[0]);
        CALLED.put("orders", new int[] {1});
        CALLED.put("deputies", new int[] {3, 1});
        CALLED.put("bestWho", new int[] {5});
        CALLED.put("leave", new int[] {7});
        CALLED.put("stable", new int[] {4});
        CALLED.put("allStable", new int[0]);
        CALLED.put("most", new int[0]);
        CALLED.put("mostOf", new int[] {4});
        CALLED.put("report", new int[] {1, 4, 99});
        CALLED.put("said", new int[] {1, 4, 180, 1});
        CALLED.put("learnt", new int[] {7, 1});
        CALLED.put("chain", new int[] {1, 4, 1});
        CALLED.put("ways", new int[] {14});
        CALLED.put("thaw", new int[] {3, 60, 9, 61});
        CALLED.put("judge", new int[] {1, 4, 4, 7});
        CALLED.put("seeds", new int[] {20, Integer.MAX_VALUE - 1, 1});
        CALLED.put("image", new int[0]);
        CALLED.put("restore", new int[0]);
        CALLED.put("count", new int[] {7});
        CALLED.put("keep", new int[] {7, 1, 5, 9});
        CALLED.put("row", new int[] {7, 2, 100});
        CALLED.put("put", new int[] {7, 99, 300});
        CALLED.put("element", new int[] {7, 99});
        CALLED.put("copy", new int[] {7, 6, 7, 6, 6});
        CALLED.put("cost", new int[] {7});
        CALLED.put("toss", new int[] {7});
        CALLED.put("valley", new int[] {7});
    }

    private static final Map<String, Method> OF_CLASS = methods(EngagedByDeputy.class);
    private static final Map<String, Method> OF_MODEL = methods(Model.class);

    private final Random random;
    private final EngagedByDeputy x = new EngagedByDeputy();
    private final Model model = new Model();
    private final List<String> calls = new ArrayList<>();
    private boolean wrong;

    private OracleTest(long seed) {
        random = new Random(seed);
    }

    private static Map<String, Method> methods(Class<?> c) {
        Map<String, Method> all = new LinkedHashMap<>();
        for (Method m : c.getMethods()) {
            all.put(m.getName(), m);
        }
        return all;
    }

    private static String answer(Object on, Method m, Object[] arguments) {
        try {
            return m.invoke(on, arguments).toString();
        } catch (InvocationTargetException e) {
            return "throws." + e.getCause().getClass().getSimpleName();
        } catch (IllegalAccessException e) {
            throw new IllegalStateException(e);
        }
    }

    private void call(String name, int... arguments) {
        Object[] boxed = new Object[arguments.length];
        StringBuilder text = new StringBuilder(name).append('(');
        for (int i = 0; i < arguments.length; i++) {
            boxed[i] = arguments[i];
            text.append(i == 0 ? "" : ", ").append(arguments[i]);
        }
        String got = answer(x, OF_CLASS.get(name), boxed);
        String want = answer(model, OF_MODEL.get(name), boxed);
        calls.add(text.append(") = ").append(got).toString());
        if (!got.equals(want)) {
            wrong = true;
            System.out.println("due is " + want + " behind:\n  " + String.join("\n  ", calls));
        }
    }

    private int below(int n) {
        return random.nextInt(n);
    }

    private void callAny(int oddness) {
        List<String> names = new ArrayList<>(CALLED.keySet());
        String name = names.get(below(names.size()));
        // these change much at once, so they are seldom called
        if ((name.equals("restore") || name.equals("days")) && below(3) != 0) {
            return;
        }
        int[] most = CALLED.get(name);
        int[] arguments = new int[most.length];
        for (int i = 0; i < most.length; i++) {
            arguments[i] = below(oddness) == 0 ? ODD[below(ODD.length)] : below(most[i] + 1);
        }
        call(name, arguments);
    }

    private void numbers(int d, int sort, int... numbers) {
        call("row", d, sort, numbers.length);
        for (int i = 0; i < numbers.length; i++) {
            call("put", d, i, numbers[i]);
        }
    }

    private String statement() {
        switch (below(13)) {
            case 0:
            case 1:
                return "m" + below(6) + below(10);
            case 2:
            case 3:
                return "w" + below(6) + below(10);
            case 4:
            case 5:
                return "l" + below(2) + below(4) + below(4) + below(10) + below(10);
            case 6:
                return "d" + below(2) + below(4) + below(4);
            case 7:
            case 8:
                return "c" + below(4) + below(4);
            case 9:
                return "a" + below(6) + below(3);
            case 10:
                return "s" + below(10) + below(10);
            case 11:
                return "y0" + below(10);
            default:
                return below(4) > 0 ? "s50" : "mwldcasyx".charAt(below(9)) + "" + below(100);
        }
    }

    private void tellText(int statements) {
        StringBuilder text = new StringBuilder();
        for (int i = 0; i < statements; i++) {
            text.append(statement()).append(';');
        }
        if (below(6) == 0) {
            text.setCharAt(below(text.length()), (char) ('0' + below(80)));
        }
        if (below(8) == 0) {
            text.setLength(below(text.length() + 1));
        }
        text.setLength(Math.min(100, text.length()));
        int[] bytes = text.chars().toArray();
        numbers(0, 0, bytes);
        call("valley", 0);
    }

    private void peopleCome() {
        for (int side = 0; side < 2; side++) {
            int many = below(6);
            for (int k = 0; k < many; k++) {
                call("keep", 1, 1, below(6), below(10));
                call("comes", 1, side);
                for (int j = 0; j < 5; j++) {
                    if (below(2) == 0) {
                        call("like", side, k, j, below(100));
                    }
                }
            }
            for (int k = 0; k < many; k++) {
                if (below(2) == 0) {
                    call("sends", side, k, below(many));
                }
            }
        }
        for (int i = 0; i < 7; i++) {
            call("couple", below(5), below(5));
        }
        if (below(2) == 0) {
            call("slip", 20 + below(80));
        }
        for (int deed = 0; deed < 6; deed++) {
            if (below(3) == 0) {
                call("who", deed, below(3));
            }
        }
    }

    private void askJudge() {
        int side = below(2);
        int k = below(3);
        int j = below(3);
        int sort = below(3);
        int[] told = new int[below(80)];
        for (int i = 0; i < told.length; i++) {
            told[i] = model.then(side, k, j, Math.min(60, i));
            if (i > 60 || below(12) == 0) {
                told[i] = below(40) == 0 ? 50 : sort == 0 ? -128 : Integer.MIN_VALUE;
            }
        }
        numbers(2, sort, told);
        call("judge", side, k, j, 2);
    }

    private void askLeave() {
        int[] wives = new int[model.count(0)];
        List<Integer> free = new ArrayList<>();
        for (int w = -1; w < model.count(1); w++) {
            free.add(w);
        }
        for (int m = 0; m < wives.length; m++) {
            int w = free.get(below(free.size()));
            if (w >= 0 && below(20) != 0) {
                free.remove((Integer) w);
            }
            wives[m] = w;
        }
        numbers(2, below(3), wives);
        call("leave", 2);
    }

    private void askLearnt() {
        int added = new int[] {3, 5, 1, 5, 9, 6, 14, 0, 2}[below(9)];
        int[] told = new int[below(4)];
        for (int i = 0; i < told.length; i++) {
            told[i] = below(12) == 0 ? below(10) : added;
        }
        numbers(2, below(3), told);
        call("learnt", 2, below(2));
    }

    private void lookAtAll() {
        for (int side = 0; side < 2; side++) {
            for (int k = 0; k < 5; k++) {
                call("one", side, k, 2);
                call("one", side, k, 4);
                for (int j = 0; j < 5; j++) {
                    call("likes", side, k, j);
                }
            }
        }
        for (int c = 0; c < 4; c++) {
            call("about", c, 2);
            call("about", c, 3);
        }
        call("count", 3);
        call("count", 4);
    }

    private boolean run() {
        if (below(4) != 0) {
            peopleCome();
        } else {
            tellText(below(20) + 1);
        }
        int oddness = 6 + below(40);
        while (calls.size() < CALLS && !wrong) {
            switch (below(30)) {
                case 0:
                    askJudge();
                    break;
                case 1:
                    askLeave();
                    break;
                case 2:
                    askLearnt();
                    break;
                case 3:
                    tellText(below(7) + 1);
                    break;
                default:
                    callAny(oddness);
            }
        }
        lookAtAll();
        return !wrong;
    }

    public static void main(String[] args) {
        Due due = new Due();
        int first = args.length > 0 ? Integer.parseInt(args[0]) : 0;
        int runs = args.length > 1 ? Integer.parseInt(args[1]) : RUNS;
        for (int seed = first; seed < first + runs; seed++) {
            due.holds("run " + seed + " is as the model", new OracleTest(seed).run());
        }
        due.end();
    }
}
