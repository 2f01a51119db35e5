import java.util.List;
import java.util.NoSuchElementException;

/**
 * What the tests of the boundary cases share. A test is a method whose name starts with p and the number of its
 * promise in two digits; it quotes the sentence that it tests.
 */
abstract class Boundary {
    interface Maker {
        ProjectPlanner make();
    }

    interface Use {
        Object on(ProjectPlanner planner);
    }

    interface OfOne {
        Object on(ProjectPlanner planner, int number);
    }

    static final int MIN = Integer.MIN_VALUE;
    static final int MAX = Integer.MAX_VALUE;
    static final String FIRST = "project 1;resource crew 3;resource crane 1;task dig 3 2 0;"
        + "task wall 5 2 1 after dig;task roof 2 1 1 after wall;task pipe 4 1 0 after dig;"
        + "task paint 3 1 0 after wall pipe;";
    /** 12 tasks in a row and 3 resources, everything as great as can be. */
    static final String FULL = "project 3;resource p 9;resource q 9;resource r 9;task abcdef 30 9 9 9;"
        + "task b 30 9 9 9 after abcdef;task c 30 9 9 9 after b;task d 30 9 9 9 after c;task e 30 9 9 9 after d;"
        + "task f 30 9 9 9 after e;task g 30 9 9 9 after f;task h 30 9 9 9 after g;task i 30 9 9 9 after h;"
        + "task j 30 9 9 9 after i;task k 30 9 9 9 after j;task l 30 9 9 9 after k;";
    /** The least project that there is. */
    static final String LEAST = "project 0;resource r 1;task x 1 0;";
    static final String ONE_UNIT = "project 0;resource r 1;";

    static final Check check = new Check("BoundaryTests");
    static final Document document = new Document();
    private static String test = "";

    static void begin(String name) {
        test = name;
    }

    private static int promise() {
        return Integer.parseInt(test.substring(1, 3));
    }

    static void says(String... sentences) {
        for (String sentence : sentences) {
            check.equal(test + " quotes the document: " + sentence, document.quote(promise(), sentence), true);
        }
    }

    static void is(Object got, Object due) {
        check.equal(test, got, due);
    }

    static void is(String what, Object got, Object due) {
        check.equal(test + ": " + what, got, due);
    }

    static ProjectPlanner loaded(String setup) {
        return Typist.loaded(setup);
    }

    /** That many tasks a, b, c .. of one day, without demands and links. */
    static String bare(int count) {
        StringBuilder text = new StringBuilder(ONE_UNIT);
        for (int task = 0; task < count; task++) {
            text.append("task ").append((char) ('a' + task)).append(" 1 0;");
        }
        return text.toString();
    }

    /** As many links as there can be: from each task to all behind it. */
    static String dense(int count) {
        StringBuilder text = new StringBuilder(ONE_UNIT);
        for (int task = 0; task < count; task++) {
            text.append("task ").append((char) ('a' + task)).append(task == 0 ? " 1 0" : " 1 0 after");
            for (int from = 0; from < task; from++) {
                text.append(' ').append((char) ('a' + from));
            }
            text.append(';');
        }
        return text.toString();
    }

    /** 12 tasks, and a link to each from the one behind it. */
    static ProjectPlanner backward() {
        ProjectPlanner planner = loaded(bare(12));
        for (int task = 11; task > 0; task--) {
            planner.addLink(task, task - 1);
        }
        return planner;
    }

    static String padded(String text, int length) {
        return text + " ".repeat(length - text.length());
    }

    /** A planner of which every part says something: three changes, a slot, an error, an output, a buffer. */
    static ProjectPlanner eventful() {
        ProjectPlanner planner = new ProjectPlanner();
        planner.save(1);
        planner.setRelease(2, 12);
        planner.addLink(3, 2);
        planner.setCapacity(0, 4);
        planner.writeSchedule();
        Check.answer(() -> Typist.script(planner, "rule 1;drop x;"));
        Typist.type(planner, "project 2;resource q 4;task zz 9 3;");
        return planner;
    }

    static ProjectPlanner fullHistory() {
        ProjectPlanner planner = eventful();
        planner.save(0);
        for (int change = 0; change < 5; change++) {
            planner.setDuration(change, 7 + change);
        }
        return planner;
    }

    /** Of two planners of one making, one is asked; the other shows what the first must still show. */
    private static void spared(String what, List<Shown.Part> parts, Maker maker, Use call, Object due) {
        for (Shown.Part part : parts) {
            ProjectPlanner asked = maker.make();
            is(what, Check.answer(() -> call.on(asked)), due);
            is(what + ", and nothing changes", part.of(asked), part.of(maker.make()));
        }
    }

    static void refuses(Class<? extends RuntimeException> due, String what, Maker maker, Use call) {
        spared(what, Shown.all(), maker, call, "throws " + due.getSimpleName());
    }

    static void outOfBounds(Maker maker, Use call) {
        refuses(IndexOutOfBoundsException.class, "out of bounds", maker, call);
    }

    static void outOfBounds(Use call) {
        outOfBounds(Boundary::eventful, call);
    }

    static void badArgument(Maker maker, Use call) {
        refuses(IllegalArgumentException.class, "a bad argument", maker, call);
    }

    static void badArgument(Use call) {
        badArgument(Boundary::eventful, call);
    }

    static void badState(Maker maker, Use call) {
        refuses(IllegalStateException.class, "a bad state", maker, call);
    }

    static void badState(Use call) {
        badState(Boundary::eventful, call);
    }

    static void noElement(Maker maker, Use call) {
        refuses(NoSuchElementException.class, "no such element", maker, call);
    }

    /** A question gets its answer and changes nothing, nor does it where both slots and the history are full. */
    static void question(Maker maker, Use call, Object due) {
        spared("a question", Shown.all(), maker, call, due);
        for (Shown.Part part : Shown.all()) {
            leaves("everything", call, part);
        }
    }

    /** Whatever the call answers, the part is the same as on another planner without the call. */
    static void leaves(String what, Use call, Shown.Part part) {
        ProjectPlanner planner = fullHistory();
        Check.answer(() -> call.on(planner));
        is(what + " stays", part.of(planner), part.of(fullHistory()));
    }

    /** A number of a task: the first and the last one there is, and the first ones on either side that are not. */
    static void onlyTasks(OfOne call) {
        for (int number : new int[] {-1, 5, 6, 11, 12, 31, 32, 36, 64, -32, MIN, MIN + 1, MAX}) {
            outOfBounds(planner -> call.on(planner, number));
        }
        answersOnly(() -> loaded(LEAST), 1, call);
        answersOnly(() -> loaded(bare(2)), 2, call);
        answersOnly(() -> loaded(FULL), 12, call);
        answersOnly(Boundary::eventful, 5, call);
        answersOnly(() -> {
            ProjectPlanner planner = loaded(FULL);
            planner.dropTask(0);
            return planner;
        }, 11, call);
    }

    /** A number of a resource, likewise. */
    static void onlyResources(OfOne call) {
        for (int number : new int[] {-1, 2, 3, 31, 32, 33, 64, -32, MIN, MIN + 1, MAX}) {
            outOfBounds(planner -> call.on(planner, number));
        }
        answersOnly(() -> loaded(LEAST), 1, call);
        answersOnly(() -> loaded(FULL), 3, call);
        answersOnly(Boundary::eventful, 2, call);
    }

    private static void answersOnly(Maker maker, int count, OfOne call) {
        for (int number = -3; number < 16; number++) {
            int asked = number;
            ProjectPlanner planner = maker.make();
            boolean refused = Check.answer(() -> call.on(planner, asked)).equals("throws IndexOutOfBoundsException");
            is("number " + asked + " of " + count + " is refused", refused, asked < 0 || asked >= count);
        }
    }

    /** Arguments from least to most are answered; the first ones on either side are not, nor those far off. */
    static void onlyArguments(int least, int most, OfOne call) {
        for (int argument : new int[] {least - 1, most + 1, least - 256, most + 256, MIN, MAX, least - 65536}) {
            badArgument(planner -> call.on(planner, argument));
        }
        for (int argument = least; argument <= most; argument++) {
            int asked = argument;
            ProjectPlanner planner = eventful();
            Object answer = Check.answer(() -> call.on(planner, asked));
            is("argument " + asked + " is taken: " + answer, answer.toString().startsWith("throws"), false);
        }
    }

    // The bar in a text marks the position of its error.

    static void setupError(int code, String marked) {
        textError(code, marked, ProjectPlanner::load);
    }

    static void scriptError(int code, String marked) {
        textError(code, marked, ProjectPlanner::runScript);
    }

    private static void textError(int code, String marked, Use parse) {
        String text = marked.replace("|", "");
        spared(marked, Shown.allButTexts(), Boundary::eventful, planner -> {
            Typist.type(planner, text);
            return parse.on(planner);
        }, "throws IllegalArgumentException");
        ProjectPlanner planner = eventful();
        Typist.type(planner, text);
        Check.answer(() -> parse.on(planner));
        is("code of " + marked, planner.errorCode(), code);
        is("position in " + marked, planner.errorPosition(), marked.indexOf('|'));
        is("the buffer after " + marked, Shown.length(planner), 0);
    }

    /** Only the code and the position, for many texts. */
    static String errorOf(ProjectPlanner planner, String text, Use parse) {
        Typist.type(planner, text);
        return Check.answer(() -> parse.on(planner)) + " " + Shown.errors(planner);
    }

    static String setupErrorOf(String text) {
        return errorOf(new ProjectPlanner(), text, ProjectPlanner::load);
    }

    static String scriptErrorOf(String text) {
        return errorOf(new ProjectPlanner(), text, ProjectPlanner::runScript);
    }

    static String failed(int code, int position) {
        return "throws IllegalArgumentException error " + code + " at " + position;
    }

    static String worked(int answer) {
        return answer + " error 0 at -1";
    }
}
