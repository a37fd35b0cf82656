import java.lang.reflect.Constructor;
import java.lang.reflect.Method;
import java.lang.reflect.Modifier;
import java.nio.file.Files;
import java.nio.file.Path;
import java.util.Arrays;
import java.util.List;
import java.util.Set;
import java.util.TreeSet;
import java.util.stream.Collectors;

/** The public face is that of the document, word for word, and nothing else of the class can be seen. */
public final class FaceTest {
    private static final Due DUE = new Due();

    private static String told(Method m) {
        String parameters = Arrays.stream(m.getParameterTypes()).map(Class::getSimpleName).collect(Collectors.joining(", "));
        String thrown = Arrays.stream(m.getExceptionTypes()).map(Class::getSimpleName).collect(Collectors.joining(", "));
        return m.getReturnType().getSimpleName() + " " + m.getName() + "(" + parameters + ")"
            + (thrown.isEmpty() ? "" : " throws " + thrown);
    }

    /** The face as the document prints it, without the names of parameters. */
    private static Set<String> toldByDocument() throws Exception {
        Set<String> all = new TreeSet<>();
        for (String line : Files.readAllLines(Path.of("../shared/DOC.md"))) {
            String text = line.strip();
            if (text.startsWith("public ") && text.endsWith(";") && !text.contains("EngagedByDeputy(")) {
                all.add(text.replaceAll("(int|long) \\w+(?=[,)])", "$1").replaceAll("^public |;$", ""));
            }
        }
        return all;
    }

    public static void main(String[] args) throws Exception {
        Class<?> c = EngagedByDeputy.class;
        DUE.holds("the class is public and final", c.getModifiers() == (Modifier.PUBLIC | Modifier.FINAL));
        Set<String> face = new TreeSet<>();
        Set<String> names = new TreeSet<>();
        for (Method m : c.getDeclaredMethods()) {
            if (Modifier.isPublic(m.getModifiers())) {
                face.add(told(m));
                names.add(m.getName());
            }
        }
        Set<String> due = toldByDocument();
        DUE.is("methods of the document", due.size(), 44);
        DUE.holds("the face " + face + " is " + due, face.equals(due));
        for (Method m : c.getDeclaredMethods()) {
            boolean seen = Modifier.isPublic(m.getModifiers());
            DUE.holds(m + " is public or private", seen || Modifier.isPrivate(m.getModifiers()));
            DUE.holds(m + " bears no public name", seen || !names.contains(m.getName()));
        }
        Arrays.stream(c.getDeclaredFields()).forEach(f -> DUE.holds(f + " is private", Modifier.isPrivate(f.getModifiers())));
        List<Constructor<?>> made = Arrays.asList(c.getDeclaredConstructors());
        DUE.holds("one public constructor without parameters",
            made.size() == 1 && made.get(0).getParameterCount() == 0 && Modifier.isPublic(made.get(0).getModifiers()));
        for (Class<?> inside : c.getDeclaredClasses()) {
            DUE.holds(inside + " is private", Modifier.isPrivate(inside.getModifiers()));
            DUE.holds(inside + " is static", Modifier.isStatic(inside.getModifiers()));
            for (Method m : inside.getDeclaredMethods()) {
                DUE.holds(m + " bears no public name", !names.contains(m.getName()));
                DUE.holds(m + " has seven parameters at most", m.getParameterCount() <= 7);
            }
            DUE.holds(inside + " has twenty fields at most", inside.getDeclaredFields().length <= 20);
        }
        DUE.holds("twelve classes at most", c.getDeclaredClasses().length + 1 <= 12);
        DUE.end();
    }
}
