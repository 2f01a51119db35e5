import java.lang.reflect.InvocationTargetException;
import java.lang.reflect.Method;
import java.util.ArrayList;
import java.util.Arrays;
import java.util.Comparator;
import java.util.List;
import java.util.Random;

/** Runs of at most 512 calls, each answer compared with PlannerModel's; the seeds are fixed. */
public final class RandomRunsTests {
    private static final int RUNS = 1000;
    private static final int CALLS = 512;
    private static final String[] NAMES = {"a", "b", "c", "dd", "ee", "after", "task", "link", "drop", "zzzzzz",
        "rule", "demand", "ab", "ba", "q", "dig", "wall", "roof", "pipe", "paint", "crew", "crane", "abcdefg",
        "resource", "abcdefghi"};

    private final Random random;
    private final ProjectPlanner planner = new ProjectPlanner();
    private final PlannerModel model = new PlannerModel();
    private final List<String> told = new ArrayList<>();
    private final Check check;
    private final int run;
    private int calls;
    private int length;

    private RandomRunsTests(Check check, int run) {
        this.check = check;
        this.run = run;
        random = new Random(run);
    }

    public static void main(String[] args) {
        Check check = new Check("RandomRunsTests");
        for (int run = 0; run < RUNS && check.wrong() == 0; run++) {
            new RandomRunsTests(check, run).go();
        }
        check.finish();
    }

    private void go() {
        Method[] methods = ProjectPlanner.class.getMethods();
        Method[] own = Arrays.stream(methods).filter(each -> each.getDeclaringClass() == ProjectPlanner.class)
            .sorted(Comparator.comparing(Method::getName)).toArray(Method[]::new);
        if (random.nextInt(4) > 0) {
            text(setup(12));
            call("load");
        }
        while (calls < CALLS && check.wrong() == 0) {
            int kind = random.nextInt(60);
            if (kind == 0) {
                text(broken(setup(12)));
                call("load");
            } else if (kind <= 2) {
                text(kind == 1 ? script() : broken(script()));
                call("runScript");
            } else if (kind == 3) {
                text(name());
                call(random.nextBoolean() ? "findTask" : "findResource");
            } else {
                any(own[random.nextInt(own.length)]);
            }
        }
    }

    private void any(Method method) {
        if (method.getName().equals("load") && random.nextInt(3) > 0) {
            return;
        }
        if (method.getName().equals("dropTask") && random.nextInt(4) > 0) {
            return;
        }
        Object[] arguments = new Object[method.getParameterCount()];
        for (int index = 0; index < arguments.length; index++) {
            arguments[index] = argument();
        }
        call(method.getName(), arguments);
    }

    private int argument() {
        switch (random.nextInt(12)) {
            case 0:
                return random.nextInt(40) - 3;
            case 1:
                return random.nextInt(200);
            case 2:
                return random.nextInt();
            case 3:
                return random.nextInt(1100) - 50;
            case 4:
                return random.nextInt(3);
            default:
                return random.nextInt(model.taskCount() + 1);
        }
    }

    private void call(String name, Object... arguments) {
        if (calls >= CALLS || check.wrong() > 0) {
            return;
        }
        calls++;
        Object got = answer(planner, name, arguments);
        Object due = answer(model, name, arguments);
        told.add(name + Arrays.toString(arguments) + " = " + got);
        check.equal("run " + run + " call " + calls + " " + name + Arrays.toString(arguments), got, due);
        if (check.wrong() > 0) {
            told.forEach(System.out::println);
        }
        if (name.equals("append") && got instanceof Integer || name.equals("truncate") && got instanceof Integer) {
            length = (Integer) got;
        } else if (name.equals("load") || name.equals("runScript")) {
            length = 0;
        }
    }

    private static Object answer(Object object, String name, Object[] arguments) {
        Class<?>[] types = new Class<?>[arguments.length];
        Arrays.fill(types, int.class);
        try {
            return object.getClass().getMethod(name, types).invoke(object, arguments);
        } catch (InvocationTargetException thrown) {
            return "throws " + thrown.getCause().getClass().getName();
        } catch (ReflectiveOperationException wrongTest) {
            throw new IllegalStateException(wrongTest);
        }
    }

    private void text(String text) {
        if (random.nextInt(10) > 0) {
            call("truncate", 0);
        }
        int start = length;
        for (int index = 0; index < text.length(); index += 20) {
            Object[] words = {0, 0, 0, 0, 0};
            for (int place = 0; place < 20; place++) {
                int value = index + place < text.length() ? text.charAt(index + place) : ' ';
                words[place / 4] = (Integer) words[place / 4] | value << (24 - 8 * (place % 4));
            }
            call("append", words);
        }
        call("truncate", Math.min(length, start + text.length()));
    }

    private String name() {
        int known = model.taskCount();
        if (random.nextInt(5) > 0) {
            StringBuilder name = new StringBuilder();
            int task = random.nextInt(known);
            for (int index = 0; index < 6; index++) {
                Object letter = answer(model, "taskNameByte", new Object[] {task, index});
                if (letter instanceof Integer) {
                    name.append((char) (int) (Integer) letter);
                }
            }
            return name.toString();
        }
        return NAMES[random.nextInt(NAMES.length)];
    }

    private String setup(int most) {
        StringBuilder text = new StringBuilder("project " + random.nextInt(4) + ";");
        int resources = 1 + random.nextInt(3);
        int[] capacities = new int[resources];
        for (int resource = 0; resource < resources; resource++) {
            capacities[resource] = 1 + random.nextInt(random.nextBoolean() ? 3 : 9);
            text.append("resource ").append((char) ('p' + resource)).append(" ").append(capacities[resource]);
            text.append(";");
        }
        int tasks = 1 + random.nextInt(most);
        int longest = random.nextBoolean() ? 5 : 30;
        for (int task = 0; task < tasks; task++) {
            text.append("task ").append(NAMES[task]).append(" ").append(1 + random.nextInt(longest));
            for (int capacity : capacities) {
                text.append(" ").append(random.nextInt(capacity + 1));
            }
            boolean linked = false;
            for (int from = 0; from < task; from++) {
                if (random.nextInt(4) == 0) {
                    text.append(linked ? " " : " after ").append(NAMES[from]);
                    linked = true;
                }
            }
            text.append(";");
        }
        return text.length() > 600 ? setup(6) : text.toString();
    }

    private String script() {
        StringBuilder text = new StringBuilder();
        int commands = random.nextInt(random.nextInt(10) == 0 ? 33 : 6);
        for (int command = 0; command < commands && text.length() < 560; command++) {
            switch (random.nextInt(8)) {
                case 0 -> text.append("duration ").append(name()).append(" ").append(random.nextInt(32));
                case 1 -> text.append("demand ").append(name()).append(" ").append(resource()).append(" ")
                    .append(random.nextInt(4));
                case 2 -> text.append("release ").append(name()).append(" ").append(random.nextInt(102));
                case 3 -> text.append("link ").append(name()).append(" ").append(name());
                case 4 -> text.append("unlink ").append(name()).append(" ").append(name());
                case 5 -> text.append("capacity ").append(resource()).append(" ").append(random.nextInt(11));
                case 6 -> text.append("rule ").append(random.nextInt(5));
                default -> text.append(random.nextInt(3) == 0 ? "drop " + name() : "rule 1");
            }
            text.append(random.nextBoolean() ? ";" : " ;\n");
        }
        return text.toString();
    }

    private String resource() {
        return model.resourceCount() == 2 && random.nextInt(3) == 0 ? "crew"
            : "" + (char) ('p' + random.nextInt(model.resourceCount()));
    }

    private String broken(String text) {
        if (random.nextInt(4) == 0) {
            return text;
        }
        StringBuilder broken = new StringBuilder(text);
        int at = random.nextInt(text.length() + 1);
        switch (random.nextInt(5)) {
            case 0 -> broken.insert(at, (char) random.nextInt(256));
            case 1 -> broken.setLength(at);
            case 2 -> broken.insert(at, NAMES[random.nextInt(NAMES.length)]);
            case 3 -> broken.insert(at, " " + random.nextInt(1200) + " ");
            default -> broken.delete(at, Math.min(text.length(), at + 1 + random.nextInt(8)));
        }
        return broken.length() > 600 ? text : broken.toString();
    }
}
