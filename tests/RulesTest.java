import java.nio.file.Files;
import java.nio.file.Path;
import java.util.List;
import java.util.regex.Matcher;
import java.util.regex.Pattern;

/** Those rules of LANGUAGE.md that can be seen in the text of the class. */
public final class RulesTest {
    private static final Due DUE = new Due();

    private static void without(String code, String rule, String... patterns) {
        for (String pattern : patterns) {
            Matcher m = Pattern.compile(pattern).matcher(code);
            boolean found = m.find();
            DUE.holds("rule " + rule + ": no " + pattern + (found ? ", but: " + m.group() : ""), !found);
        }
    }

    /** Rule 4 has System.arraycopy and its like over arrays of numbers alone. */
    private static void onlyNumbersAreCopied(String code) {
        Matcher array = Pattern.compile("\\b[A-Z]\\w*\\[\\] (\\w+)").matcher(code);
        while (array.find()) {
            String name = array.group(1);
            without(code, "4", "arraycopy\\([^;]*\\b" + name + "\\b", "Arrays\\.\\w+\\([^;]*\\b" + name + "\\b",
                "\\b" + name + "\\.clone\\b");
        }
    }

    private static void methodsAreShort(String code) {
        List<String> lines = code.lines().toList();
        int begin = -1;
        String end = "";
        for (int i = 0; i < lines.size(); i++) {
            String line = lines.get(i);
            if (begin < 0 && line.matches(" {4}( {4})?[\\w<>\\[\\] ]+\\([^=;]*\\) (throws [\\w, ]+ )?\\{")) {
                begin = i;
                end = line.substring(0, line.length() - line.stripLeading().length()) + "}";
            } else if (begin >= 0 && line.equals(end)) {
                DUE.holds("rule 11: sixty lines at most: " + lines.get(begin), i - begin < 60);
                begin = -1;
            }
        }
    }

    public static void main(String[] args) throws Exception {
        String code = Files.readString(Path.of("src/main/java/EngagedByDeputy.java"))
            .replaceAll("(?s)/\\*.*?\\*/", "").replaceAll("//[^\\n]*", "");
        DUE.holds("rule 3: signs 1 to 127 alone", code.chars().allMatch(c -> c >= 1 && c <= 127));
        without(code, "head", "\\bpackage\\b", "\\bimport\\b", "@");
        without(code, "2", "->", "::", "\\bnew \\w+\\([^)]*\\) *\\{");
        without(code, "3", "\\[\\]\\[\\]\\[\\]", "\\b(var|Object|Map|Set|Double|Long|Float)\\b(?!\\.)");
        without(code, "4", "\\bString\\b", "\\bSystem\\.(?!arraycopy\\b)", "\\bMath\\.(?!max\\b|min\\b|abs\\b)", "\\bThread\\b");
        without(code, "5", "\\bstatic \\{", "\\bstatic (?!final\\b)[\\w\\[\\]]+ \\w+( =|;)");
        without(code, "6", "\\bfinally\\b", "\\bsynchronized\\b", "\\bassert\\b", "\\brecord\\b", "getMessage",
            "\\bextends \\w*(Exception|Error)\\b", "\\b(equals|hashCode|toString)\\(", "\\btry \\(",
            "catch \\((?!UnsupportedOperationException|IllegalArgumentException|IllegalStateException)");
        without(code, "9", "while \\(true\\)", "for \\(;;\\)", "for \\([^;]*; *;");
        onlyNumbersAreCopied(code);
        methodsAreShort(code);
        DUE.end();
    }
}
