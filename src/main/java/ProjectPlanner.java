import java.util.NoSuchElementException;

/** A project planner with precedence constraints and limited resources. */
public final class ProjectPlanner {
    public static final int NONE = -1;

    private static final int MAX_TASKS = 12;
    private static final int MAX_RESOURCES = 3;
    private static final int MAX_CAPACITY = 9;
    private static final int MAX_DURATION = 30;
    private static final int MAX_RELEASE = 99;
    private static final int MAX_RULE = 3;
    private static final int MAX_DAY = 999;
    private static final int MAX_NAME = 6;
    private static final int MAX_WORD = 8;
    private static final int MAX_DIGITS = 3;
    private static final int MAX_NUMBER = 999;
    private static final int MAX_TEXT = 600;
    private static final int MAX_COMMANDS = 30;
    private static final int MAX_UNDO = 6;
    private static final int SLOTS = 2;
    private static final int APPENDED = 20;

    private static final int MISPLACED = 1;
    private static final int OUT_OF_RANGE = 2;
    private static final int WRONG_NAME = 3;
    private static final int LISTED_TWICE = 4;
    private static final int TOO_MANY = 5;

    private static final CommandKind[] COMMAND_KINDS = CommandKind.values();

    private final Plan plan;
    private final Plan draft = new Plan();
    private final History history = new History();
    private final Plan[] saved = new Plan[SLOTS];
    private final boolean[] isSaved = new boolean[SLOTS];
    private final Tokens tokens = new Tokens();
    private final Script script = new Script();
    private final Schedule schedule = new Schedule();
    private String output = "";

    public ProjectPlanner() {
        for (int slot = 0; slot < SLOTS; slot++) {
            saved[slot] = new Plan();
        }
        Tokens text = new Tokens();
        text.input.putText("project 1;resource crew 3;resource crane 1;");
        text.input.putText("task dig 3 2 0;task wall 5 2 1 after dig;task roof 2 1 1 after wall;");
        text.input.putText("task pipe 4 1 0 after dig;task paint 3 1 0 after wall pipe;");
        Plan first = new Plan();
        Setup.read(text, first);
        plan = first;
    }

    // ---- input

    public int append(int a, int b, int c, int d, int e) throws IllegalStateException {
        Input input = tokens.input;
        if (input.length + APPENDED > MAX_TEXT) {
            throw new IllegalStateException("the input buffer holds at most 600 bytes");
        }
        input.putBytes(a);
        input.putBytes(b);
        input.putBytes(c);
        input.putBytes(d);
        input.putBytes(e);
        return input.length;
    }

    public int truncate(int length) throws IllegalArgumentException {
        if (length < 0 || length > tokens.input.length) {
            throw new IllegalArgumentException("the input buffer can only become shorter");
        }
        tokens.input.length = length;
        return length;
    }

    public int load() throws IllegalArgumentException {
        boolean valid = Setup.read(tokens, draft);
        tokens.input.length = 0;
        if (!valid) {
            throw new IllegalArgumentException("the setup text has an error");
        }
        plan.copyFrom(draft);
        for (int slot = 0; slot < SLOTS; slot++) {
            isSaved[slot] = false;
        }
        history.count = 0;
        return plan.tasks;
    }

    public int errorCode() {
        return tokens.errorCode;
    }

    public int errorPosition() {
        return tokens.errorPosition;
    }

    // ---- tasks and resources

    public int taskCount() {
        return plan.tasks;
    }

    public int resourceCount() {
        return plan.resources;
    }

    public int rule() {
        return plan.rule;
    }

    public int taskNameByte(int task, int index) throws IndexOutOfBoundsException {
        requireTask(task);
        int letter = letterOf(plan.taskNames[task], index);
        if (letter == 0) {
            throw new IndexOutOfBoundsException("the name has no such letter");
        }
        return letter;
    }

    public int findTask() throws NoSuchElementException {
        int task = plan.taskNamed(tokens.input.asName());
        if (task == NONE) {
            throw new NoSuchElementException("no task has this name");
        }
        return task;
    }

    public int findResource() throws NoSuchElementException {
        int resource = plan.resourceNamed(tokens.input.asName());
        if (resource == NONE) {
            throw new NoSuchElementException("no resource has this name");
        }
        return resource;
    }

    public int capacity(int resource) throws IndexOutOfBoundsException {
        requireResource(resource);
        return plan.capacities[resource];
    }

    public int duration(int task) throws IndexOutOfBoundsException {
        requireTask(task);
        return plan.durations[task];
    }

    public int release(int task) throws IndexOutOfBoundsException {
        requireTask(task);
        return plan.releases[task];
    }

    public int demand(int task, int resource) throws IndexOutOfBoundsException {
        requireTask(task);
        requireResource(resource);
        return plan.demandOf(task, resource);
    }

    // ---- links

    public int linkCount() {
        return plan.countLinks();
    }

    public boolean hasLink(int from, int to) throws IndexOutOfBoundsException {
        requireTask(from);
        requireTask(to);
        return plan.isLinked(from, to);
    }

    public boolean isBefore(int from, int to) throws IndexOutOfBoundsException {
        requireTask(from);
        requireTask(to);
        Dates dates = currentDates();
        return contains(dates.before[to], from);
    }

    public int predecessorCount(int task) throws IndexOutOfBoundsException {
        requireTask(task);
        return Integer.bitCount(plan.predecessors[task]);
    }

    public int followerCount(int task) throws IndexOutOfBoundsException {
        requireTask(task);
        return currentDates().countFollowers(plan, task);
    }

    public int topologicalOrder(int position) throws IndexOutOfBoundsException {
        if (position < 0 || position >= plan.tasks) {
            throw new IndexOutOfBoundsException("the order has no such position");
        }
        return currentDates().order[position];
    }

    public int closedCycleLength(int from, int to) throws IndexOutOfBoundsException {
        requireTask(from);
        requireTask(to);
        return plan.cycleLength(from, to);
    }

    // ---- dates without resource limits

    public int earliestStart(int task) throws IndexOutOfBoundsException {
        requireTask(task);
        return currentDates().earliest[task];
    }

    public int latestStart(int task) throws IndexOutOfBoundsException {
        requireTask(task);
        return currentDates().latest[task];
    }

    public int slack(int task) throws IndexOutOfBoundsException {
        requireTask(task);
        return currentDates().slackOf(task);
    }

    public int freeSlack(int task) throws IndexOutOfBoundsException {
        requireTask(task);
        return currentDates().freeSlackOf(plan, task);
    }

    public boolean isCritical(int task) throws IndexOutOfBoundsException {
        requireTask(task);
        return currentDates().slackOf(task) == 0;
    }

    public int criticalCount() {
        Dates dates = currentDates();
        int count = 0;
        for (int task = 0; task < plan.tasks; task++) {
            if (dates.slackOf(task) == 0) {
                count++;
            }
        }
        return count;
    }

    public int projectLength() {
        return currentDates().length;
    }

    public int overloadedDays(int resource) throws IndexOutOfBoundsException {
        requireResource(resource);
        return currentDates().countOverloads(plan, resource);
    }

    // ---- schedule

    public int startDay(int task) throws IndexOutOfBoundsException {
        requireTask(task);
        return currentSchedule().starts[task];
    }

    public int finishDay(int task) throws IndexOutOfBoundsException {
        requireTask(task);
        return currentSchedule().starts[task] + plan.durations[task];
    }

    public int delay(int task) throws IndexOutOfBoundsException {
        requireTask(task);
        Schedule current = currentSchedule();
        return current.starts[task] - current.dates.earliest[task];
    }

    public int makespan() {
        return currentSchedule().length;
    }

    public int usage(int resource, int day) throws IndexOutOfBoundsException, IllegalArgumentException {
        requireResource(resource);
        requireDay(day);
        return currentSchedule().usageOn(plan, resource, day);
    }

    public int peakUsage(int resource) throws IndexOutOfBoundsException {
        requireResource(resource);
        return currentSchedule().peakOf(plan, resource);
    }

    public int runningCount(int day) throws IllegalArgumentException {
        requireDay(day);
        Schedule current = currentSchedule();
        int count = 0;
        for (int task = 0; task < plan.tasks; task++) {
            if (plan.runsOn(task, current.starts[task], day)) {
                count++;
            }
        }
        return count;
    }

    public int whyNotOn(int task, int day) throws IndexOutOfBoundsException, IllegalArgumentException {
        requireTask(task);
        requireDay(day);
        return currentSchedule().obstacleOn(plan, task, day);
    }

    public int work(int resource) throws IndexOutOfBoundsException {
        requireResource(resource);
        return plan.workFor(resource);
    }

    public int lowerBound() {
        return currentDates().leastMakespan(plan);
    }

    public float utilization(int resource) throws IndexOutOfBoundsException {
        requireResource(resource);
        int offered = plan.capacities[resource] * currentSchedule().length;
        return offered > 0 ? (float) plan.workFor(resource) / (float) offered : 0;
    }

    public double meanSlack() {
        Dates dates = currentDates();
        int sum = 0;
        for (int task = 0; task < plan.tasks; task++) {
            sum += dates.slackOf(task);
        }
        return plan.tasks > 0 ? (double) sum / (double) plan.tasks : 0;
    }

    public int inconsistencies() {
        Schedule current = currentSchedule();
        int count = current.countBrokenLinks(plan) + current.countOverusedResources(plan);
        return current.length < current.dates.leastMakespan(plan) ? count + 1 : count;
    }

    // ---- what would be (nothing changes)

    public int makespanWith(int rule) throws IllegalArgumentException {
        requireRule(rule);
        return lengthWithRule(rule);
    }

    public int bestRule() {
        int best = 0;
        int bestLength = lengthWithRule(0);
        for (int rule = 1; rule <= MAX_RULE; rule++) {
            int length = lengthWithRule(rule);
            if (length < bestLength) {
                best = rule;
                bestLength = length;
            }
        }
        return best;
    }

    public int makespanWithMore(int resource) throws IndexOutOfBoundsException {
        requireResource(resource);
        return lengthWithMore(resource);
    }

    public int bottleneck() {
        int best = NONE;
        int bestLength = currentSchedule().length;
        for (int resource = 0; resource < plan.resources; resource++) {
            int length = lengthWithMore(resource);
            if (length < bestLength) {
                best = resource;
                bestLength = length;
            }
        }
        return best;
    }

    public int makespanWithDuration(int task, int duration)
            throws IndexOutOfBoundsException, IllegalArgumentException {
        requireTask(task);
        requireDuration(duration);
        draft.copyFrom(plan);
        draft.changeDuration(task, duration);
        schedule.build(draft);
        return schedule.length;
    }

    // ---- changes

    public int setDuration(int task, int duration) throws IndexOutOfBoundsException, IllegalArgumentException {
        requireTask(task);
        requireDuration(duration);
        history.remember(plan);
        int previous = plan.durations[task];
        plan.changeDuration(task, duration);
        return previous;
    }

    public int setDemand(int task, int resource, int demand)
            throws IndexOutOfBoundsException, IllegalArgumentException {
        requireTask(task);
        requireResource(resource);
        if (demand < 0 || demand > plan.capacities[resource]) {
            throw new IllegalArgumentException("a demand is 0 to the capacity of the resource");
        }
        history.remember(plan);
        int previous = plan.demandOf(task, resource);
        plan.changeDemand(task, resource, demand);
        return previous;
    }

    public int setRelease(int task, int day) throws IndexOutOfBoundsException, IllegalArgumentException {
        requireTask(task);
        if (day < 0 || day > MAX_RELEASE) {
            throw new IllegalArgumentException("a release day is 0 to 99");
        }
        history.remember(plan);
        int previous = plan.releases[task];
        plan.changeRelease(task, day);
        return previous;
    }

    public int addLink(int from, int to) throws IndexOutOfBoundsException, IllegalStateException {
        requireTask(from);
        requireTask(to);
        if (!plan.canLink(from, to)) {
            throw new IllegalStateException("there is this link, or it would close a cycle");
        }
        history.remember(plan);
        plan.link(from, to);
        return plan.countLinks();
    }

    public int removeLink(int from, int to) throws IndexOutOfBoundsException, IllegalStateException {
        requireTask(from);
        requireTask(to);
        if (!plan.isLinked(from, to)) {
            throw new IllegalStateException("there is no such link");
        }
        history.remember(plan);
        plan.unlink(from, to);
        return plan.countLinks();
    }

    public int setCapacity(int resource, int capacity)
            throws IndexOutOfBoundsException, IllegalArgumentException, IllegalStateException {
        requireResource(resource);
        if (capacity < 1 || capacity > MAX_CAPACITY) {
            throw new IllegalArgumentException("a capacity is 1 to 9");
        }
        if (plan.greatestDemand(resource) > capacity) {
            throw new IllegalStateException("a task has a greater demand for the resource");
        }
        history.remember(plan);
        int previous = plan.capacities[resource];
        plan.changeCapacity(resource, capacity);
        return previous;
    }

    public int setRule(int rule) throws IllegalArgumentException {
        requireRule(rule);
        history.remember(plan);
        int previous = plan.rule;
        plan.changeRule(rule);
        return previous;
    }

    public int dropTask(int task) throws IndexOutOfBoundsException, IllegalStateException {
        requireTask(task);
        if (plan.tasks == 1) {
            throw new IllegalStateException("the only task cannot be dropped");
        }
        history.remember(plan);
        plan.removeTask(task);
        return plan.tasks;
    }

    public int runScript() throws IllegalArgumentException {
        boolean valid = script.read(tokens, plan);
        tokens.input.length = 0;
        if (!valid) {
            throw new IllegalArgumentException("the script has an error");
        }
        history.remember(plan);
        return script.runOn(plan);
    }

    // ---- undo, saved states, output

    public int undo() throws IllegalStateException {
        if (history.count == 0) {
            throw new IllegalStateException("there is no change to undo");
        }
        history.takeBack(plan);
        return history.count;
    }

    public int save(int slot) throws IndexOutOfBoundsException {
        requireSlot(slot);
        saved[slot].copyFrom(plan);
        isSaved[slot] = true;
        return plan.tasks;
    }

    public int restore(int slot) throws IndexOutOfBoundsException, IllegalStateException {
        requireSlot(slot);
        if (!isSaved[slot]) {
            throw new IllegalStateException("nothing is saved in the slot");
        }
        plan.copyFrom(saved[slot]);
        history.count = 0;
        return plan.tasks;
    }

    public int writeSchedule() {
        output = currentSchedule().asText(plan);
        return output.length();
    }

    public int outputByte(int index) throws IndexOutOfBoundsException {
        if (index < 0 || index >= output.length()) {
            throw new IndexOutOfBoundsException("the output text has no such byte");
        }
        return output.charAt(index);
    }

    private void requireTask(int task) {
        if (!plan.hasTask(task)) {
            throw new IndexOutOfBoundsException("the task does not exist");
        }
    }

    private void requireResource(int resource) {
        if (!plan.hasResource(resource)) {
            throw new IndexOutOfBoundsException("the resource does not exist");
        }
    }

    private static void requireSlot(int slot) {
        if (slot < 0 || slot >= SLOTS) {
            throw new IndexOutOfBoundsException("the slot does not exist");
        }
    }

    private static void requireDay(int day) {
        if (day < 0 || day > MAX_DAY) {
            throw new IllegalArgumentException("a day is 0 to 999");
        }
    }

    private static void requireDuration(int duration) {
        if (duration < 1 || duration > MAX_DURATION) {
            throw new IllegalArgumentException("a duration is 1 to 30 days");
        }
    }

    private static void requireRule(int rule) {
        if (rule < 0 || rule > MAX_RULE) {
            throw new IllegalArgumentException("a rule is 0 to 3");
        }
    }

    private Dates currentDates() {
        schedule.dates.compute(plan);
        return schedule.dates;
    }

    private Schedule currentSchedule() {
        schedule.build(plan);
        return schedule;
    }

    private int lengthWithRule(int rule) {
        draft.copyFrom(plan);
        draft.rule = rule;
        schedule.build(draft);
        return schedule.length;
    }

    private int lengthWithMore(int resource) {
        draft.copyFrom(plan);
        draft.capacities[resource]++;
        schedule.build(draft);
        return schedule.length;
    }

    private static boolean contains(int set, int member) {
        return (set >> member & 1) != 0;
    }

    /** A word as a number, its first letter in the lowest byte; so no letter reads as 0. */
    private static long packed(String word) {
        long value = 0;
        for (int index = 0; index < word.length(); index++) {
            value |= (long) word.charAt(index) << 8 * index;
        }
        return value;
    }

    private static int letterOf(long name, int index) {
        return index < 0 || index >= MAX_NAME ? 0 : (int) (name >> 8 * index & 255);
    }

    private static boolean isLetter(int value) {
        return value >= 'a' && value <= 'z';
    }

    private static boolean isDigit(int value) {
        return value >= '0' && value <= '9';
    }

    /** What is planned. A set of tasks is an int with the bit 1 << task for each of its tasks. */
    private static final class Plan {
        int rule;
        int resources;
        int tasks;
        final long[] resourceNames = new long[MAX_RESOURCES];
        final int[] capacities = new int[MAX_RESOURCES];
        final long[] taskNames = new long[MAX_TASKS];
        final int[] durations = new int[MAX_TASKS];
        final int[] releases = new int[MAX_TASKS];
        final int[] predecessors = new int[MAX_TASKS];
        final int[] demands = new int[MAX_TASKS * MAX_RESOURCES];

        void copyFrom(Plan other) {
            rule = other.rule;
            resources = other.resources;
            tasks = other.tasks;
            System.arraycopy(other.resourceNames, 0, resourceNames, 0, MAX_RESOURCES);
            System.arraycopy(other.capacities, 0, capacities, 0, MAX_RESOURCES);
            System.arraycopy(other.taskNames, 0, taskNames, 0, MAX_TASKS);
            System.arraycopy(other.durations, 0, durations, 0, MAX_TASKS);
            System.arraycopy(other.releases, 0, releases, 0, MAX_TASKS);
            System.arraycopy(other.predecessors, 0, predecessors, 0, MAX_TASKS);
            System.arraycopy(other.demands, 0, demands, 0, MAX_TASKS * MAX_RESOURCES);
        }

        boolean hasTask(int task) {
            return task >= 0 && task < tasks;
        }

        boolean hasResource(int resource) {
            return resource >= 0 && resource < resources;
        }

        int taskNamed(long name) {
            for (int task = 0; task < tasks; task++) {
                if (taskNames[task] == name) {
                    return task;
                }
            }
            return NONE;
        }

        int resourceNamed(long name) {
            for (int resource = 0; resource < resources; resource++) {
                if (resourceNames[resource] == name) {
                    return resource;
                }
            }
            return NONE;
        }

        int demandOf(int task, int resource) {
            return demands[task * MAX_RESOURCES + resource];
        }

        int greatestDemand(int resource) {
            int greatest = 0;
            for (int task = 0; task < tasks; task++) {
                greatest = Math.max(greatest, demandOf(task, resource));
            }
            return greatest;
        }

        int workFor(int resource) {
            int sum = 0;
            for (int task = 0; task < tasks; task++) {
                sum += demandOf(task, resource) * durations[task];
            }
            return sum;
        }

        int daysOfWork(int resource) {
            int units = capacities[resource];
            return units > 0 ? (workFor(resource) + units - 1) / units : 0;
        }

        boolean runsOn(int task, int start, int day) {
            return start <= day && day < start + durations[task];
        }

        /** The sum of the demands of those members that run on the day if they start on these days. */
        int loadOn(int[] starts, int members, int resource, int day) {
            int sum = 0;
            for (int task = 0; task < tasks; task++) {
                if (contains(members, task) && runsOn(task, starts[task], day)) {
                    sum += demandOf(task, resource);
                }
            }
            return sum;
        }

        int countLinks() {
            int count = 0;
            for (int task = 0; task < tasks; task++) {
                count += Integer.bitCount(predecessors[task]);
            }
            return count;
        }

        boolean isLinked(int from, int to) {
            return contains(predecessors[to], from);
        }

        /** Whether the task is not done yet and all its predecessors are. */
        boolean isReady(int task, int done) {
            return !contains(done, task) && (predecessors[task] & ~done) == 0;
        }

        int cycleLength(int from, int to) {
            int reached = 1 << from;
            for (int length = 1; length <= tasks; length++) {
                if (contains(reached, to)) {
                    return length;
                }
                reached |= predecessorsOf(reached);
            }
            return NONE;
        }

        private int predecessorsOf(int members) {
            int found = 0;
            for (int task = 0; task < tasks; task++) {
                if (contains(members, task)) {
                    found |= predecessors[task];
                }
            }
            return found;
        }

        boolean canLink(int from, int to) {
            return !isLinked(from, to) && cycleLength(from, to) == NONE;
        }

        // Each change below tells whether it was possible; if not, it has changed nothing.

        boolean changeDuration(int task, int duration) {
            if (!hasTask(task) || duration < 1 || duration > MAX_DURATION) {
                return false;
            }
            durations[task] = duration;
            return true;
        }

        boolean changeDemand(int task, int resource, int demand) {
            if (!hasTask(task) || !hasResource(resource) || demand < 0 || demand > capacities[resource]) {
                return false;
            }
            demands[task * MAX_RESOURCES + resource] = demand;
            return true;
        }

        boolean changeRelease(int task, int day) {
            if (!hasTask(task) || day < 0 || day > MAX_RELEASE) {
                return false;
            }
            releases[task] = day;
            return true;
        }

        boolean link(int from, int to) {
            if (!hasTask(from) || !hasTask(to) || !canLink(from, to)) {
                return false;
            }
            predecessors[to] |= 1 << from;
            return true;
        }

        boolean unlink(int from, int to) {
            if (!hasTask(from) || !hasTask(to) || !isLinked(from, to)) {
                return false;
            }
            predecessors[to] &= ~(1 << from);
            return true;
        }

        boolean changeCapacity(int resource, int units) {
            if (!hasResource(resource) || units < 1 || units > MAX_CAPACITY || greatestDemand(resource) > units) {
                return false;
            }
            capacities[resource] = units;
            return true;
        }

        boolean changeRule(int newRule) {
            if (newRule < 0 || newRule > MAX_RULE) {
                return false;
            }
            rule = newRule;
            return true;
        }

        boolean removeTask(int task) {
            if (!hasTask(task) || tasks == 1) {
                return false;
            }
            tasks--;
            for (int place = task; place < tasks; place++) {
                moveTask(place + 1, place);
            }
            for (int place = 0; place < tasks; place++) {
                predecessors[place] = withoutBit(predecessors[place], task);
            }
            return true;
        }

        private void moveTask(int from, int to) {
            taskNames[to] = taskNames[from];
            durations[to] = durations[from];
            releases[to] = releases[from];
            predecessors[to] = predecessors[from];
            for (int resource = 0; resource < MAX_RESOURCES; resource++) {
                demands[to * MAX_RESOURCES + resource] = demands[from * MAX_RESOURCES + resource];
            }
        }

        /** Takes the bit out and moves the bits behind it one place down. */
        private static int withoutBit(int set, int bit) {
            int below = (1 << bit) - 1;
            return set & below | set >> 1 & ~below;
        }
    }

    /** The topological order and the dates without resource limits. */
    private static final class Dates {
        final int[] order = new int[MAX_TASKS];
        final int[] before = new int[MAX_TASKS];
        final int[] earliest = new int[MAX_TASKS];
        final int[] latest = new int[MAX_TASKS];
        int length;

        void compute(Plan plan) {
            sortTasks(plan);
            length = 0;
            for (int position = 0; position < plan.tasks; position++) {
                findEarliest(plan, order[position]);
            }
            for (int position = plan.tasks - 1; position >= 0; position--) {
                findLatest(plan, order[position]);
            }
        }

        private void sortTasks(Plan plan) {
            int sorted = 0;
            for (int position = 0; position < plan.tasks; position++) {
                for (int task = 0; task < plan.tasks; task++) {
                    if (plan.isReady(task, sorted)) {
                        order[position] = task;
                        sorted |= 1 << task;
                        break;
                    }
                }
            }
        }

        private void findEarliest(Plan plan, int task) {
            int start = plan.releases[task];
            int tasksBefore = 0;
            for (int from = 0; from < plan.tasks; from++) {
                if (plan.isLinked(from, task)) {
                    start = Math.max(start, earliest[from] + plan.durations[from]);
                    tasksBefore |= before[from] | 1 << from;
                }
            }
            earliest[task] = start;
            before[task] = tasksBefore;
            length = Math.max(length, start + plan.durations[task]);
        }

        private void findLatest(Plan plan, int task) {
            int finish = length;
            for (int to = 0; to < plan.tasks; to++) {
                if (plan.isLinked(task, to)) {
                    finish = Math.min(finish, latest[to]);
                }
            }
            latest[task] = finish - plan.durations[task];
        }

        int slackOf(int task) {
            return latest[task] - earliest[task];
        }

        int freeSlackOf(Plan plan, int task) {
            int next = length;
            for (int to = 0; to < plan.tasks; to++) {
                if (plan.isLinked(task, to)) {
                    next = Math.min(next, earliest[to]);
                }
            }
            return next - earliest[task] - plan.durations[task];
        }

        int countFollowers(Plan plan, int task) {
            int count = 0;
            for (int to = 0; to < plan.tasks; to++) {
                if (contains(before[to], task)) {
                    count++;
                }
            }
            return count;
        }

        int countOverloads(Plan plan, int resource) {
            int everyTask = (1 << plan.tasks) - 1;
            int count = 0;
            for (int day = 0; day < length; day++) {
                if (plan.loadOn(earliest, everyTask, resource, day) > plan.capacities[resource]) {
                    count++;
                }
            }
            return count;
        }

        int leastMakespan(Plan plan) {
            int bound = length;
            for (int resource = 0; resource < plan.resources; resource++) {
                bound = Math.max(bound, plan.daysOfWork(resource));
            }
            return bound;
        }
    }

    /** The schedule that keeps to the capacities. */
    private static final class Schedule {
        final Dates dates = new Dates();
        final int[] starts = new int[MAX_TASKS];
        int placed;
        int length;

        void build(Plan plan) {
            dates.compute(plan);
            placed = 0;
            length = 0;
            for (int step = 0; step < plan.tasks; step++) {
                int task = bestReady(plan);
                if (task != NONE) {
                    starts[task] = firstFreeDay(plan, task);
                    placed |= 1 << task;
                    length = Math.max(length, starts[task] + plan.durations[task]);
                }
            }
        }

        private int bestReady(Plan plan) {
            int best = NONE;
            int bestRank = 0;
            for (int task = 0; task < plan.tasks; task++) {
                if (plan.isReady(task, placed)) {
                    int rank = rankOf(plan, task);
                    if (best == NONE || rank > bestRank) {
                        best = task;
                        bestRank = rank;
                    }
                }
            }
            return best;
        }

        /** The greater, the sooner the rule selects the task. */
        private int rankOf(Plan plan, int task) {
            switch (plan.rule) {
                case 1:
                    return -dates.latest[task];
                case 2:
                    return plan.durations[task];
                case 3:
                    return dates.countFollowers(plan, task);
                default:
                    return 0;
            }
        }

        private int firstFreeDay(Plan plan, int task) {
            int start = Math.max(plan.releases[task], predecessorsFinish(plan, task));
            for (int day = start; day <= MAX_DAY && day < start + plan.durations[task]; day++) {
                if (!hasRoomOn(plan, task, day)) {
                    start = day + 1;
                }
            }
            return start;
        }

        private int predecessorsFinish(Plan plan, int task) {
            int finish = 0;
            for (int from = 0; from < plan.tasks; from++) {
                if (plan.isLinked(from, task)) {
                    finish = Math.max(finish, starts[from] + plan.durations[from]);
                }
            }
            return finish;
        }

        /** Whether the task could run on the day beside the other placed tasks. */
        private boolean hasRoomOn(Plan plan, int task, int day) {
            int others = placed & ~(1 << task);
            for (int resource = 0; resource < plan.resources; resource++) {
                int used = plan.loadOn(starts, others, resource, day);
                if (used + plan.demandOf(task, resource) > plan.capacities[resource]) {
                    return false;
                }
            }
            return true;
        }

        int obstacleOn(Plan plan, int task, int day) {
            if (day < plan.releases[task]) {
                return 1;
            }
            if (day < predecessorsFinish(plan, task)) {
                return 2;
            }
            int finish = day + plan.durations[task];
            for (int to = 0; to < plan.tasks; to++) {
                if (plan.isLinked(task, to) && finish > starts[to]) {
                    return 3;
                }
            }
            for (int runningDay = day; runningDay < finish; runningDay++) {
                if (!hasRoomOn(plan, task, runningDay)) {
                    return 4;
                }
            }
            return 0;
        }

        int usageOn(Plan plan, int resource, int day) {
            return plan.loadOn(starts, placed, resource, day);
        }

        int peakOf(Plan plan, int resource) {
            int peak = 0;
            for (int day = 0; day < length; day++) {
                peak = Math.max(peak, usageOn(plan, resource, day));
            }
            return peak;
        }

        int countBrokenLinks(Plan plan) {
            int count = 0;
            for (int from = 0; from < plan.tasks; from++) {
                for (int to = 0; to < plan.tasks; to++) {
                    if (plan.isLinked(from, to) && starts[to] < starts[from] + plan.durations[from]) {
                        count++;
                    }
                }
            }
            return count;
        }

        int countOverusedResources(Plan plan) {
            int count = 0;
            for (int resource = 0; resource < plan.resources; resource++) {
                if (peakOf(plan, resource) > plan.capacities[resource]) {
                    count++;
                }
            }
            return count;
        }

        String asText(Plan plan) {
            StringBuilder text = new StringBuilder();
            for (int day = 0; day < length; day++) {
                for (int task = 0; task < plan.tasks; task++) {
                    if (starts[task] == day) {
                        writeTask(plan, task, text);
                    }
                }
            }
            return text.toString();
        }

        private void writeTask(Plan plan, int task, StringBuilder text) {
            if (text.length() > 0) {
                text.append(' ');
            }
            for (int index = 0; index < MAX_NAME; index++) {
                int letter = letterOf(plan.taskNames[task], index);
                if (letter != 0) {
                    text.append((char) letter);
                }
            }
            text.append(':');
            text.append(starts[task]);
            text.append('-');
            text.append(starts[task] + plan.durations[task]);
            if (dates.slackOf(task) == 0) {
                text.append('*');
            }
        }
    }

    /** The states before the latest changes, in a ring. */
    private static final class History {
        final Plan[] states = new Plan[MAX_UNDO];
        int newest;
        int count;

        History() {
            for (int index = 0; index < MAX_UNDO; index++) {
                states[index] = new Plan();
            }
        }

        void remember(Plan plan) {
            newest = newest + 1 < MAX_UNDO ? newest + 1 : 0;
            states[newest].copyFrom(plan);
            count = Math.min(count + 1, MAX_UNDO);
        }

        void takeBack(Plan plan) {
            plan.copyFrom(states[newest]);
            newest = newest > 0 ? newest - 1 : MAX_UNDO - 1;
            count--;
        }
    }

    /** The input buffer. */
    private static final class Input {
        final byte[] bytes = new byte[MAX_TEXT];
        int length;

        void putByte(int value) {
            if (length < MAX_TEXT) {
                bytes[length] = (byte) value;
                length++;
            }
        }

        void putBytes(int value) {
            putByte(value >>> 24);
            putByte(value >>> 16);
            putByte(value >>> 8);
            putByte(value);
        }

        void putText(String text) {
            for (int index = 0; index < text.length(); index++) {
                putByte(text.charAt(index));
            }
        }

        /** The whole buffer as a packed name; 0, which no name is, if it cannot be one. */
        long asName() {
            if (length > MAX_NAME) {
                return 0;
            }
            long name = 0;
            for (int index = 0; index < length; index++) {
                if (!isLetter(bytes[index])) {
                    return 0;
                }
                name |= (long) bytes[index] << 8 * index;
            }
            return name;
        }
    }

    private enum TokenKind { WORD, NUMBER, SEMICOLON, INVALID, END }

    /** Walks through the tokens of the input buffer and keeps the first error. */
    private static final class Tokens {
        final Input input = new Input();
        private int start;
        private int end;
        TokenKind kind = TokenKind.END;
        long word;
        private int number;
        long takenName;
        int takenNumber;
        int errorCode;
        int errorPosition = NONE;

        void open() {
            errorCode = 0;
            errorPosition = NONE;
            end = 0;
            advance();
        }

        void advance() {
            start = end;
            while (start < input.length && isSeparator(input.bytes[start])) {
                start++;
            }
            end = start;
            word = 0;
            number = 0;
            if (start >= input.length) {
                kind = TokenKind.END;
            } else if (isLetter(input.bytes[start])) {
                scanWord();
            } else if (isDigit(input.bytes[start])) {
                scanNumber();
            } else {
                kind = input.bytes[start] == ';' ? TokenKind.SEMICOLON : TokenKind.INVALID;
                end = start + 1;
            }
        }

        private static boolean isSeparator(int value) {
            return value == ' ' || value == '\n';
        }

        private void scanWord() {
            while (end < input.length && isLetter(input.bytes[end])) {
                if (end - start < MAX_WORD) {
                    word |= (long) input.bytes[end] << 8 * (end - start);
                }
                end++;
            }
            kind = TokenKind.WORD;
            if (end - start > MAX_WORD) {
                kind = TokenKind.INVALID;
                word = 0;
            }
        }

        private void scanNumber() {
            while (end < input.length && isDigit(input.bytes[end])) {
                if (end - start < MAX_DIGITS) {
                    number = number * 10 + input.bytes[end] - '0';
                }
                end++;
            }
            kind = end - start > MAX_DIGITS ? TokenKind.INVALID : TokenKind.NUMBER;
        }

        boolean fail(int code) {
            errorCode = code;
            errorPosition = start;
            return false;
        }

        boolean isAt(String literal) {
            return kind == TokenKind.WORD && word == packed(literal);
        }

        /** Takes the first word of a part of which only so many are allowed. */
        boolean takeOpening(String literal, boolean isRoom) {
            if (!isAt(literal)) {
                return fail(MISPLACED);
            }
            if (!isRoom) {
                return fail(TOO_MANY);
            }
            advance();
            return true;
        }

        boolean takeSemicolon() {
            if (kind != TokenKind.SEMICOLON) {
                return fail(MISPLACED);
            }
            advance();
            return true;
        }

        boolean takeNumber(int least, int most) {
            if (kind != TokenKind.NUMBER) {
                return fail(MISPLACED);
            }
            if (number < least || number > most) {
                return fail(OUT_OF_RANGE);
            }
            takenNumber = number;
            advance();
            return true;
        }

        /** Takes a name that nothing bears yet; bearer is what bears the current word, or NONE. */
        boolean takeNewName(int bearer) {
            if (kind != TokenKind.WORD) {
                return fail(MISPLACED);
            }
            if (end - start > MAX_NAME || bearer != NONE) {
                return fail(WRONG_NAME);
            }
            takenName = word;
            advance();
            return true;
        }

        /** Looks for a name that something bears; bearer is what bears the current word, or NONE. */
        boolean isAtKnownName(int bearer) {
            if (kind != TokenKind.WORD) {
                return fail(MISPLACED);
            }
            return bearer != NONE || fail(WRONG_NAME);
        }

        boolean takeKnownName(int bearer) {
            if (!isAtKnownName(bearer)) {
                return false;
            }
            takenName = word;
            advance();
            return true;
        }
    }

    /** Reads a setup text into a plan, which is worth nothing if the text has an error. */
    private static final class Setup {
        static boolean read(Tokens tokens, Plan plan) {
            plan.resources = 0;
            plan.tasks = 0;
            tokens.open();
            boolean good = readHead(tokens, plan) && readResource(tokens, plan);
            for (int more = 1; more <= MAX_RESOURCES && good && tokens.isAt("resource"); more++) {
                good = readResource(tokens, plan);
            }
            good = good && readTask(tokens, plan);
            for (int more = 1; more <= MAX_TASKS && good && tokens.kind != TokenKind.END; more++) {
                good = readTask(tokens, plan);
            }
            return good;
        }

        private static boolean readHead(Tokens tokens, Plan plan) {
            if (!tokens.takeOpening("project", true) || !tokens.takeNumber(0, MAX_RULE)) {
                return false;
            }
            plan.rule = tokens.takenNumber;
            return tokens.takeSemicolon();
        }

        private static boolean readResource(Tokens tokens, Plan plan) {
            int resource = plan.resources;
            if (!tokens.takeOpening("resource", resource < MAX_RESOURCES)
                    || !tokens.takeNewName(plan.resourceNamed(tokens.word))
                    || !tokens.takeNumber(1, MAX_CAPACITY)) {
                return false;
            }
            plan.resourceNames[resource] = tokens.takenName;
            plan.capacities[resource] = tokens.takenNumber;
            plan.resources++;
            return tokens.takeSemicolon();
        }

        private static boolean readTask(Tokens tokens, Plan plan) {
            int task = plan.tasks;
            if (!tokens.takeOpening("task", task < MAX_TASKS)
                    || !tokens.takeNewName(plan.taskNamed(tokens.word))
                    || !tokens.takeNumber(1, MAX_DURATION)) {
                return false;
            }
            plan.taskNames[task] = tokens.takenName;
            plan.durations[task] = tokens.takenNumber;
            plan.releases[task] = 0;
            plan.predecessors[task] = 0;
            if (!readDemands(tokens, plan, task) || !readLinks(tokens, plan, task)) {
                return false;
            }
            // Counted only now: a task is not an earlier task behind its own "after".
            plan.tasks++;
            return tokens.takeSemicolon();
        }

        private static boolean readDemands(Tokens tokens, Plan plan, int task) {
            for (int resource = 0; resource < plan.resources; resource++) {
                if (!tokens.takeNumber(0, plan.capacities[resource])) {
                    return false;
                }
                plan.demands[task * MAX_RESOURCES + resource] = tokens.takenNumber;
            }
            return true;
        }

        private static boolean readLinks(Tokens tokens, Plan plan, int task) {
            if (!tokens.isAt("after")) {
                return true;
            }
            tokens.advance();
            for (int names = 0; names == 0 || names <= MAX_TASKS && tokens.kind == TokenKind.WORD; names++) {
                int from = plan.taskNamed(tokens.word);
                if (!tokens.isAtKnownName(from)) {
                    return false;
                }
                if (plan.isLinked(from, task)) {
                    return tokens.fail(LISTED_TWICE);
                }
                plan.predecessors[task] |= 1 << from;
                tokens.advance();
            }
            return true;
        }
    }

    private enum CommandKind {
        DURATION("duration", 1, 0, true),
        DEMAND("demand", 1, 1, true),
        RELEASE("release", 1, 0, true),
        LINK("link", 2, 0, false),
        UNLINK("unlink", 2, 0, false),
        CAPACITY("capacity", 0, 1, true),
        RULE("rule", 0, 0, true),
        DROP("drop", 1, 0, false);

        final String word;
        final int taskNames;
        final int resourceNames;
        final boolean hasNumber;

        CommandKind(String word, int taskNames, int resourceNames, boolean hasNumber) {
            this.word = word;
            this.taskNames = taskNames;
            this.resourceNames = resourceNames;
            this.hasNumber = hasNumber;
        }
    }

    /** A command with the names and the number that its kind has. */
    private static final class Command {
        CommandKind kind = CommandKind.RULE;
        long task;
        long otherTask;
        long resource;
        int number;
    }

    /** The commands of a script. */
    private static final class Script {
        final Command[] commands = new Command[MAX_COMMANDS];
        int count;

        Script() {
            for (int index = 0; index < MAX_COMMANDS; index++) {
                commands[index] = new Command();
            }
        }

        boolean read(Tokens tokens, Plan plan) {
            count = 0;
            tokens.open();
            boolean good = true;
            for (int read = 0; read <= MAX_COMMANDS && good && tokens.kind != TokenKind.END; read++) {
                good = readCommand(tokens, plan);
            }
            return good;
        }

        private boolean readCommand(Tokens tokens, Plan plan) {
            int kind = kindAt(tokens);
            if (kind == NONE) {
                return tokens.fail(MISPLACED);
            }
            if (count >= MAX_COMMANDS) {
                return tokens.fail(TOO_MANY);
            }
            tokens.advance();
            Command command = commands[count];
            command.kind = COMMAND_KINDS[kind];
            count++;
            return readNames(tokens, plan, command) && readNumber(tokens, command) && tokens.takeSemicolon();
        }

        private static int kindAt(Tokens tokens) {
            for (int kind = 0; kind < COMMAND_KINDS.length; kind++) {
                if (tokens.isAt(COMMAND_KINDS[kind].word)) {
                    return kind;
                }
            }
            return NONE;
        }

        private static boolean readNames(Tokens tokens, Plan plan, Command command) {
            if (command.kind.taskNames > 0) {
                if (!tokens.takeKnownName(plan.taskNamed(tokens.word))) {
                    return false;
                }
                command.task = tokens.takenName;
            }
            if (command.kind.taskNames > 1) {
                if (!tokens.takeKnownName(plan.taskNamed(tokens.word))) {
                    return false;
                }
                command.otherTask = tokens.takenName;
            }
            if (command.kind.resourceNames > 0) {
                if (!tokens.takeKnownName(plan.resourceNamed(tokens.word))) {
                    return false;
                }
                command.resource = tokens.takenName;
            }
            return true;
        }

        private static boolean readNumber(Tokens tokens, Command command) {
            if (!command.kind.hasNumber) {
                return true;
            }
            boolean good = tokens.takeNumber(0, MAX_NUMBER);
            command.number = tokens.takenNumber;
            return good;
        }

        /** Executes the commands up to the first one that is not possible. */
        int runOn(Plan plan) {
            int executed = 0;
            while (executed < count && execute(plan, commands[executed])) {
                executed++;
            }
            return executed;
        }

        private static boolean execute(Plan plan, Command command) {
            int task = plan.taskNamed(command.task);
            int otherTask = plan.taskNamed(command.otherTask);
            int resource = plan.resourceNamed(command.resource);
            switch (command.kind) {
                case DURATION:
                    return plan.changeDuration(task, command.number);
                case DEMAND:
                    return plan.changeDemand(task, resource, command.number);
                case RELEASE:
                    return plan.changeRelease(task, command.number);
                case LINK:
                    return plan.link(task, otherTask);
                case UNLINK:
                    return plan.unlink(task, otherTask);
                case CAPACITY:
                    return plan.changeCapacity(resource, command.number);
                case RULE:
                    return plan.changeRule(command.number);
                case DROP:
                    return plan.removeTask(task);
                default:
                    return false;
            }
        }
    }
}
