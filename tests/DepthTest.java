import java.nio.file.Files;
import java.nio.file.Path;
import java.util.ArrayList;
import java.util.HashMap;
import java.util.List;
import java.util.Map;
import java.util.regex.Matcher;
import java.util.regex.Pattern;

/** Rules 8 and 11 of LANGUAGE.md: who calls whom in the text of the class, how deep, and which methods call themselves. */
public final class DepthTest {
    private static final Due DUE = new Due();
    private static final int DEEPEST = 8;

    private static final Pattern CLASS = Pattern.compile("(?:    )?(?:public |private )?(?:static )?(?:final )?class (\\w+)(?: extends (\\w+))? \\{");
    private static final Pattern METHOD = Pattern.compile("((?:    ){1,2})(?! )((?:[\\w<>\\[\\]]+ )*)(\\w+)\\([^=;]*\\) (?:throws [\\w, ]+ )?\\{");
    private static final Pattern CALL = Pattern.compile("(new |super\\.|\\.|)\\b(\\w+)\\(");

    private record Method(String owner, String name, String modifiers, List<String> body) {
    }

    private static final List<Method> METHODS = new ArrayList<>();
    private static final Map<String, String> UNDER = new HashMap<>();
    private static final Map<Method, Integer> DEPTHS = new HashMap<>();

    private static void read(List<String> lines) {
        String owner = "";
        for (int i = 0; i < lines.size(); i++) {
            Matcher c = CLASS.matcher(lines.get(i));
            Matcher m = METHOD.matcher(lines.get(i));
            if (c.matches()) {
                owner = c.group(1);
                UNDER.put(owner, c.group(2) == null ? "" : c.group(2));
            } else if (m.matches()) {
                int end = i;
                while (!lines.get(end).equals(m.group(1) + "}")) {
                    end++;
                }
                METHODS.add(new Method(owner, m.group(3), m.group(2), lines.subList(i + 1, end)));
                i = end;
            }
        }
    }

    private static Method nearest(String owner, String name) {
        for (String at = owner; at != null && !at.isEmpty(); at = UNDER.get(at)) {
            for (Method m : METHODS) {
                if (m.owner.equals(at) && m.name.equals(name)) {
                    return m;
                }
            }
        }
        return null;
    }

    private static boolean isUnder(String owner, String above) {
        for (String at = owner; at != null && !at.isEmpty(); at = UNDER.get(at)) {
            if (at.equals(above)) {
                return true;
            }
        }
        return false;
    }

    /** All methods that a call may be meant for; a call of another object's by its name alone. */
    private static List<Method> meant(Method from, String how, String name) {
        List<Method> all = new ArrayList<>();
        if (how.equals("super.")) {
            all.add(nearest(UNDER.get(from.owner), name));
        } else if (name.equals("super")) {
            all.add(nearest(UNDER.get(from.owner), UNDER.get(from.owner)));
        } else {
            for (Method m : METHODS) {
                boolean at = how.equals(".") || isUnder(m.owner, from.owner) || isUnder(from.owner, m.owner)
                    || m.owner.equals("EngagedByDeputy") || how.equals("new ");
                if (m.name.equals(name) && at) {
                    all.add(m);
                }
            }
        }
        all.removeIf(m -> m == null);
        return all;
    }

    private static int depth(Method from, List<Method> open) {
        Integer known = DEPTHS.get(from);
        if (known != null) {
            return known;
        }
        open.add(from);
        int deepest = 0;
        for (String line : from.body) {
            Matcher call = CALL.matcher(line);
            while (call.find()) {
                if (!call.group(2).matches("if|for|while|switch|catch|return")) {
                    deepest = Math.max(deepest, depthOfCall(from, call.group(1), call.group(2), open));
                }
            }
        }
        open.remove(open.size() - 1);
        DEPTHS.put(from, deepest + 1);
        return deepest + 1;
    }

    private static int depthOfCall(Method from, String how, String name, List<Method> open) {
        // what is none of the class's own is the library's
        int deepest = 1;
        for (Method m : meant(from, how, name)) {
            if (m == from) {
                DUE.holds("rule 8: " + m.owner + "." + name + " calls itself: private static", m.modifiers.startsWith("private static "));
            } else if (open.contains(m)) {
                DUE.holds("rule 8: no methods call one another: " + from.owner + "." + from.name + ", " + m.owner + "." + name, false);
            } else {
                deepest = Math.max(deepest, depth(m, open));
            }
        }
        return deepest;
    }

    public static void main(String[] args) throws Exception {
        String code = Files.readString(Path.of("src/main/java/EngagedByDeputy.java"))
            .replaceAll("(?s)/\\*.*?\\*/", "").replaceAll("//[^\\n]*", "").replaceAll("\"[^\"\\n]*\"", "\"\"");
        read(code.lines().toList());
        DUE.is("classes read", UNDER.size(), EngagedByDeputy.class.getDeclaredClasses().length + 1);
        int methods = EngagedByDeputy.class.getDeclaredMethods().length;
        for (Class<?> c : EngagedByDeputy.class.getDeclaredClasses()) {
            methods += c.getDeclaredMethods().length;
        }
        long constructors = METHODS.stream().filter(m -> m.owner.equals(m.name)).count();
        DUE.is("methods read", METHODS.size() - constructors, methods);
        int deepest = 0;
        for (Method m : METHODS) {
            int depth = depth(m, new ArrayList<>());
            deepest = Math.max(deepest, depth);
            DUE.holds("rule 11: " + m.owner + "." + m.name + " goes " + depth + " deep", depth <= DEEPEST);
        }
        // else the calls in the text were not found
        DUE.holds("some go deep: " + deepest, deepest > DEEPEST / 2);
        DUE.end();
    }
}
