import java.io.IOException;
import java.lang.reflect.Field;
import java.lang.reflect.Method;
import java.lang.reflect.Modifier;
import java.nio.file.Files;
import java.nio.file.Path;
import java.util.ArrayList;
import java.util.List;
import java.util.Set;
import java.util.TreeSet;
import java.util.regex.Matcher;
import java.util.regex.Pattern;

/** The public face as the document prints it, and that nothing else can be seen (rule 1 of LANGUAGE.md). */
public final class FaceTest {
    private static final Check check = new Check();

    public static void main(String[] args) throws IOException {
        face(Files.readString(Path.of("../shared/DOC.md")));
        fields();
        check.end();
    }

    private static void face(String doc) {
        Set<String> due = new TreeSet<>();
        Matcher method = Pattern.compile("public (int|long) (\\w+)\\(([^)]*)\\);").matcher(doc);
        while (method.find()) {
            String types = method.group(3).replaceAll(" \\w+(,|$)", "$1").replace(" ", "");
            due.add(method.group(1) + " " + method.group(2) + "(" + types + ")");
        }
        Set<String> got = new TreeSet<>();
        Set<String> names = new TreeSet<>();
        List<String> others = new ArrayList<>();
        for (Method m : HatsInRing.class.getDeclaredMethods()) {
            if (Modifier.isPublic(m.getModifiers())) {
                List<String> types = new ArrayList<>();
                for (Class<?> type : m.getParameterTypes()) {
                    types.add(type.getName());
                }
                got.add(m.getReturnType() + " " + m.getName() + "(" + String.join(",", types) + ")");
                names.add(m.getName());
            } else if (!Modifier.isPrivate(m.getModifiers())) {
                check.fail("neither public nor private: " + m);
            } else {
                others.add(m.getName());
            }
        }
        if (!due.equals(got) || due.size() != 35) {
            check.fail("the face is " + got + ", due is " + due);
        }
        for (Class<?> c : HatsInRing.class.getDeclaredClasses()) {
            for (Method m : c.getDeclaredMethods()) {
                others.add(m.getName());
            }
        }
        names.retainAll(others);
        if (!names.isEmpty()) {
            check.fail("bear the name of a public one: " + names);
        }
        check.due(1, "constructors", HatsInRing.class.getConstructors().length, 1);
        check.due(1, "public constants", HatsInRing.class.getFields().length, 5);
    }

    private static void fields() {
        for (Field f : HatsInRing.class.getDeclaredFields()) {
            int m = f.getModifiers();
            if (!Modifier.isPrivate(m) && !(Modifier.isPublic(m) && Modifier.isStatic(m))) {
                check.fail("a field that can be seen: " + f);
            }
        }
    }
}
