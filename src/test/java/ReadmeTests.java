import java.io.IOException;
import java.lang.reflect.InvocationTargetException;
import java.lang.reflect.Method;
import java.nio.file.Files;
import java.nio.file.Path;
import java.util.ArrayList;
import java.util.Arrays;
import java.util.List;
import java.util.regex.Matcher;
import java.util.regex.Pattern;

/** Makes the calls of README.md, in their order; each must answer what the file says behind it. */
public final class ReadmeTests {
    private static final Pattern CALL = Pattern.compile("planner\\.(\\w+)\\((.*)\\); +// (throws \\w+|[-\\w]+)"
        + "(, the length of \"(.*)\")?");
    private static final Pattern TEXT = Pattern.compile("type\\(planner, \"(.*)\"\\);");
    private static final int LEAST_CALLS = 40;

    private final Check check = new Check("ReadmeTests");
    private ProjectPlanner planner = new ProjectPlanner();
    private int calls;

    public static void main(String[] args) throws Exception {
        new ReadmeTests().run();
    }

    private void run() throws Exception {
        for (List<String> block : blocks("README.md")) {
            if (block.get(0).startsWith("private static")) {
                check.equal("README.md shows this file's own type()", ownSource().contains(normal(block)), true);
            } else {
                for (String line : block) {
                    follow(line);
                }
            }
        }
        check.equal("the number of calls", calls >= LEAST_CALLS, true);
        check.finish();
    }

    private void follow(String line) throws ReflectiveOperationException {
        Matcher call = CALL.matcher(line);
        Matcher text = TEXT.matcher(line);
        if (call.matches()) {
            calls++;
            check.equal(line, answer(call.group(1), call.group(2)), call.group(3));
            if (call.group(5) != null) {
                check.equal(line, Typist.output(planner), call.group(5));
            }
        } else if (text.matches()) {
            type(planner, text.group(1));
        } else if (line.equals("ProjectPlanner planner = new ProjectPlanner();")) {
            planner = new ProjectPlanner();
        } else {
            check.equal(line, line.startsWith("// ") ? "a comment" : "no call", "a comment");
        }
    }

    private String answer(String name, String list) throws ReflectiveOperationException {
        String[] texts = list.isEmpty() ? new String[0] : list.split(", ");
        Object[] arguments = Arrays.stream(texts).map(Long::decode).map(Long::intValue).toArray();
        Class<?>[] types = new Class<?>[arguments.length];
        Arrays.fill(types, int.class);
        Method method = ProjectPlanner.class.getMethod(name, types);
        try {
            return method.invoke(planner, arguments).toString();
        } catch (InvocationTargetException thrown) {
            return "throws " + thrown.getCause().getClass().getSimpleName();
        }
    }

    private static List<List<String>> blocks(String file) throws IOException {
        List<List<String>> blocks = new ArrayList<>();
        boolean inside = false;
        for (String line : Files.readAllLines(Path.of(file))) {
            if (line.startsWith("```")) {
                inside = line.equals("```java");
                if (inside) {
                    blocks.add(new ArrayList<>());
                }
            } else if (inside) {
                blocks.get(blocks.size() - 1).add(line);
            }
        }
        return blocks;
    }

    private static String ownSource() throws IOException {
        return normal(Files.readAllLines(Path.of("src/test/java/ReadmeTests.java")));
    }

    private static String normal(List<String> lines) {
        return String.join(" ", lines).replaceAll("\\s+", " ");
    }

    private static void type(ProjectPlanner planner, String text) {
        planner.truncate(0);
        for (int start = 0; start < text.length(); start += 20) {
            int[] words = new int[5];
            for (int place = 0; place < 20; place++) {
                int value = start + place < text.length() ? text.charAt(start + place) : ' ';
                words[place / 4] |= value << (24 - 8 * (place % 4));
            }
            planner.append(words[0], words[1], words[2], words[3], words[4]);
        }
        planner.truncate(text.length());
    }
}
