import java.lang.reflect.Method;
import java.nio.file.Files;
import java.nio.file.Path;
import java.util.ArrayList;
import java.util.List;
import java.util.regex.Matcher;
import java.util.regex.Pattern;

/** What README.md shows is so: its examples answer as written behind them, and its table has each call of the face. */
public final class ReadmeTest {
    private static final Due DUE = new Due();

    private static final Pattern ANSWERED = Pattern.compile("x\\.(\\w+)\\(([-\\d, ]*)\\); +// (-?\\d+).*");
    private static final Pattern TOLD = Pattern.compile("tell\\(x, (\\d), \"([^\"]*)\"\\);");
    private static final Pattern FACE = Pattern.compile("    public \\w+ (\\w+)\\(([^)]*)\\).*;");
    private static final Pattern IN_TABLE = Pattern.compile("\\| `(\\w+\\([\\w, ]*\\))` \\| .*");

    private static long answer(EngagedByDeputy x, String name, String arguments) throws Exception {
        List<Object> numbers = new ArrayList<>();
        for (String number : arguments.split(",")) {
            if (!number.isBlank()) {
                numbers.add(Integer.parseInt(number.strip()));
            }
        }
        for (Method m : EngagedByDeputy.class.getDeclaredMethods()) {
            if (m.getName().equals(name) && m.getParameterCount() == numbers.size()) {
                return ((Number) m.invoke(x, numbers.toArray())).longValue();
            }
        }
        throw new IllegalArgumentException("no call " + name + "(" + arguments + ")");
    }

    private static int examplesHold(List<String> lines) throws Exception {
        EngagedByDeputy x = null;
        int examples = 0;
        for (String line : lines) {
            Matcher answered = ANSWERED.matcher(line);
            Matcher told = TOLD.matcher(line);
            if (line.equals("EngagedByDeputy x = new EngagedByDeputy();")) {
                x = new EngagedByDeputy();
            } else if (told.matches()) {
                Rows.text(x, Integer.parseInt(told.group(1)), told.group(2));
            } else if (answered.matches()) {
                DUE.is(line, answer(x, answered.group(1), answered.group(2)), Long.parseLong(answered.group(3)));
                examples++;
            } else {
                DUE.holds("an example whose answer is written: " + line, !line.startsWith("x."));
            }
        }
        return examples;
    }

    /** Each statement of the table of letters is one that some text can hold. */
    private static void statementsHold(List<String> lines) {
        String ones = "m00;m00;m00;w00;";
        int statements = 0;
        for (String line : lines) {
            Matcher m = Pattern.compile("`([a-z]\\d+;)`").matcher(line);
            while (m.find()) {
                EngagedByDeputy x = new EngagedByDeputy();
                Rows.text(x, 0, ones + m.group(1));
                DUE.is(m.group(1), x.valley(0), 5);
                statements++;
            }
        }
        DUE.is("statements", statements, 8);
    }

    private static List<String> found(Pattern pattern, List<String> lines, boolean face) {
        List<String> all = new ArrayList<>();
        for (String line : lines) {
            Matcher m = pattern.matcher(line);
            if (m.matches()) {
                all.add(face ? m.group(1) + "(" + m.group(2).replaceAll("int ", "") + ")" : m.group(1));
            }
        }
        return all;
    }

    public static void main(String[] args) throws Exception {
        List<String> lines = Files.readAllLines(Path.of("README.md"));
        DUE.holds("some thirty examples", examplesHold(lines) > 30);
        statementsHold(lines);
        List<String> face = found(FACE, Files.readAllLines(Path.of("../shared/DOC.md")), true);
        DUE.is("calls of the document", face.size(), 44);
        List<String> table = found(IN_TABLE, lines, false);
        DUE.holds("calls of the table, in the document's order: " + table, face.equals(table));
        for (int refusal : new int[] {-1, -2, -3, -4, -11, -12, -13, -14, -15}) {
            DUE.holds("refusal " + refusal, lines.stream().anyMatch(line -> line.startsWith("| " + refusal + " |")));
        }
        DUE.end();
    }
}
