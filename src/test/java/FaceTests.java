import java.lang.reflect.Constructor;
import java.lang.reflect.Field;
import java.lang.reflect.Method;
import java.lang.reflect.Modifier;
import java.nio.file.Files;
import java.nio.file.Path;
import java.util.ArrayList;
import java.util.List;
import java.util.TreeSet;

/** The class has the document's public face, with its throws clauses, and nothing else that can be seen. */
public final class FaceTests {
    public static void main(String[] args) throws Exception {
        TreeSet<String> due = new TreeSet<>(faceOf(Path.of("../shared/DOC.md")));
        TreeSet<String> found = new TreeSet<>();
        for (Method method : ProjectPlanner.class.getDeclaredMethods()) {
            if (!Modifier.isPrivate(method.getModifiers()) && !method.isSynthetic()) {
                found.add(signature(Modifier.toString(method.getModifiers()) + " "
                    + method.getReturnType().getSimpleName() + " " + method.getName(),
                    method.getParameterTypes(), method.getExceptionTypes()));
            }
        }
        for (Constructor<?> made : ProjectPlanner.class.getDeclaredConstructors()) {
            found.add(signature(Modifier.toString(made.getModifiers()) + " " + made.getDeclaringClass().getName(),
                made.getParameterTypes(), made.getExceptionTypes()));
        }
        for (Field field : ProjectPlanner.class.getDeclaredFields()) {
            if (!Modifier.isPrivate(field.getModifiers()) && !field.isSynthetic()) {
                found.add(Modifier.toString(field.getModifiers()) + " " + field.getType().getSimpleName()
                    + " " + field.getName());
            }
        }
        Check check = new Check("FaceTests");
        check.equal("the number of lines of the face", due.size() > 60, true);
        check.equal("the public face", found.toString(), due.toString());
        check.equal("NONE", ProjectPlanner.NONE, -1);
        check.equal("public final", Modifier.toString(ProjectPlanner.class.getModifiers()), "public final");
        check.finish();
    }

    private static List<String> faceOf(Path document) throws Exception {
        List<String> face = new ArrayList<>();
        boolean inside = false;
        for (String line : Files.readAllLines(document)) {
            if (line.startsWith("public final class ProjectPlanner")) {
                inside = true;
            } else if (line.startsWith("}")) {
                inside = false;
            } else if (inside) {
                String plain = line.trim().replaceAll(" = -1;|;", "");
                face.add(plain.replaceAll("(int|long|boolean) \\w+([,)])", "$1$2").replaceAll("\\s*,\\s*", ", "));
            }
        }
        return face;
    }

    private static String signature(String start, Class<?>[] parameters, Class<?>[] exceptions) {
        String text = start + "(" + names(parameters) + ")";
        return exceptions.length == 0 ? text : text + " throws " + names(exceptions);
    }

    private static String names(Class<?>[] classes) {
        List<String> names = new ArrayList<>();
        for (Class<?> each : classes) {
            names.add(each.getSimpleName());
        }
        return String.join(", ", names);
    }
}
