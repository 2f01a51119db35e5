import java.util.ArrayDeque;
import java.util.ArrayList;
import java.util.Deque;
import java.util.HashSet;
import java.util.List;
import java.util.NoSuchElementException;
import java.util.Set;
import java.util.regex.Matcher;
import java.util.regex.Pattern;

/** The document once more, slowly and by other means, for RandomRunsTests to compare with. */
public final class PlannerModel {
    private static final class Task {
        String name;
        int duration;
        int release;
        List<Integer> demands = new ArrayList<>();
        Set<String> after = new HashSet<>();
    }

    private static final class State {
        int rule;
        List<String> resourceNames = new ArrayList<>();
        List<Integer> capacities = new ArrayList<>();
        List<Task> tasks = new ArrayList<>();

        State copy() {
            State copy = new State();
            copy.rule = rule;
            copy.resourceNames.addAll(resourceNames);
            copy.capacities.addAll(capacities);
            for (Task task : tasks) {
                Task twin = new Task();
                twin.name = task.name;
                twin.duration = task.duration;
                twin.release = task.release;
                twin.demands.addAll(task.demands);
                twin.after.addAll(task.after);
                copy.tasks.add(twin);
            }
            return copy;
        }

        int find(String name) {
            for (int index = 0; index < tasks.size(); index++) {
                if (tasks.get(index).name.equals(name)) {
                    return index;
                }
            }
            return -1;
        }

        boolean linked(int from, int to) {
            return tasks.get(to).after.contains(tasks.get(from).name);
        }

        boolean before(int from, int to) {
            for (int via = 0; via < tasks.size(); via++) {
                if (linked(from, via) && (via == to || before(via, to))) {
                    return true;
                }
            }
            return false;
        }

        int earliest(int task) {
            int day = tasks.get(task).release;
            for (int from = 0; from < tasks.size(); from++) {
                if (linked(from, task)) {
                    day = Math.max(day, earliest(from) + tasks.get(from).duration);
                }
            }
            return day;
        }

        int length() {
            int length = 0;
            for (int task = 0; task < tasks.size(); task++) {
                length = Math.max(length, earliest(task) + tasks.get(task).duration);
            }
            return length;
        }

        int latest(int task, int length) {
            int day = length;
            for (int to = 0; to < tasks.size(); to++) {
                if (linked(task, to)) {
                    day = Math.min(day, latest(to, length));
                }
            }
            return day - tasks.get(task).duration;
        }

        int slack(int task) {
            return latest(task, length()) - earliest(task);
        }

        int followers(int task) {
            int count = 0;
            for (int to = 0; to < tasks.size(); to++) {
                count += before(task, to) ? 1 : 0;
            }
            return count;
        }

        int[] schedule() {
            int[][] used = new int[capacities.size()][2000];
            int[] starts = new int[tasks.size()];
            Set<String> done = new HashSet<>();
            int length = length();
            while (done.size() < tasks.size()) {
                int chosen = -1;
                for (int task = tasks.size() - 1; task >= 0; task--) {
                    boolean ready = !done.contains(tasks.get(task).name) && done.containsAll(tasks.get(task).after);
                    if (ready && (chosen < 0 || !worse(task, chosen, length))) {
                        chosen = task;
                    }
                }
                Task task = tasks.get(chosen);
                int day = task.release;
                for (String name : task.after) {
                    int from = find(name);
                    day = Math.max(day, starts[from] + tasks.get(from).duration);
                }
                while (!fits(task, day, used)) {
                    day++;
                }
                book(task, day, used, 1);
                starts[chosen] = day;
                done.add(task.name);
            }
            return starts;
        }

        private boolean worse(int task, int than, int length) {
            if (rule == 1) {
                return latest(task, length) > latest(than, length);
            }
            if (rule == 2) {
                return tasks.get(task).duration < tasks.get(than).duration;
            }
            return rule == 3 && followers(task) < followers(than);
        }

        boolean fits(Task task, int start, int[][] used) {
            for (int day = start; day < start + task.duration; day++) {
                for (int resource = 0; resource < capacities.size(); resource++) {
                    if (used[resource][day] + task.demands.get(resource) > capacities.get(resource)) {
                        return false;
                    }
                }
            }
            return true;
        }

        void book(Task task, int start, int[][] used, int sign) {
            for (int day = start; day < start + task.duration; day++) {
                for (int resource = 0; resource < capacities.size(); resource++) {
                    used[resource][day] += sign * task.demands.get(resource);
                }
            }
        }

        int[][] booked(int[] starts) {
            int[][] used = new int[capacities.size()][2000];
            for (int task = 0; task < tasks.size(); task++) {
                book(tasks.get(task), starts[task], used, 1);
            }
            return used;
        }

        int makespan() {
            int[] starts = schedule();
            int last = 0;
            for (int task = 0; task < tasks.size(); task++) {
                last = Math.max(last, starts[task] + tasks.get(task).duration);
            }
            return last;
        }
    }

    /** An error of a text. */
    private static final class TextError extends Exception {
        private static final long serialVersionUID = 1;
        final int code;
        final int position;

        TextError(int code, int position) {
            super("code " + code);
            this.code = code;
            this.position = position;
        }
    }

    /** The tokens of a text, taken by a regular expression. */
    private static final class Reader {
        private final List<String> tokens = new ArrayList<>();
        private final List<Integer> positions = new ArrayList<>();
        private int next;

        Reader(String text) {
            Matcher matcher = Pattern.compile("[a-z]+|[0-9]+|[^ \n]").matcher(text);
            while (matcher.find()) {
                tokens.add(matcher.group());
                positions.add(matcher.start());
            }
            tokens.add("");
            positions.add(text.length());
        }

        String see() {
            return tokens.get(next);
        }

        boolean atEnd() {
            return see().isEmpty();
        }

        TextError error(int code) {
            return new TextError(code, positions.get(next));
        }

        String take(String pattern) throws TextError {
            if (!see().matches(pattern)) {
                throw error(1);
            }
            return tokens.get(next++);
        }

        int number(int least, int most) throws TextError {
            if (see().matches("[0-9]{1,3}") && (Integer.parseInt(see()) < least || Integer.parseInt(see()) > most)) {
                throw error(2);
            }
            return Integer.parseInt(take("[0-9]{1,3}"));
        }

        String name(List<String> known, boolean old) throws TextError {
            if (see().matches("[a-z]{1,8}") && (see().length() > 6 || known.contains(see()) != old)) {
                throw error(3);
            }
            return take("[a-z]{1,6}");
        }

        void limit(String pattern, boolean full) throws TextError {
            if (see().matches(pattern) && full) {
                throw error(5);
            }
        }
    }

    private State state;
    private final Deque<State> history = new ArrayDeque<>();
    private final State[] saved = new State[2];
    private String buffer;
    private int code;
    private int position = -1;
    private String output = "";

    public PlannerModel() {
        buffer = "project 1;resource crew 3;resource crane 1;task dig 3 2 0;task wall 5 2 1 after dig;"
            + "task roof 2 1 1 after wall;task pipe 4 1 0 after dig;task paint 3 1 0 after wall pipe;";
        load();
    }

    private void bounds(boolean good) {
        if (!good) {
            throw new IndexOutOfBoundsException();
        }
    }

    private void argument(boolean good) {
        if (!good) {
            throw new IllegalArgumentException();
        }
    }

    private void state(boolean good) {
        if (!good) {
            throw new IllegalStateException();
        }
    }

    private void task(int task) {
        bounds(task >= 0 && task < state.tasks.size());
    }

    private void resource(int resource) {
        bounds(resource >= 0 && resource < state.capacities.size());
    }

    private void range(int value, int least, int most) {
        argument(value >= least && value <= most);
    }

    private void change() {
        history.addLast(state.copy());
        if (history.size() > 6) {
            history.removeFirst();
        }
    }

    public int append(int a, int b, int c, int d, int e) {
        state(buffer.length() <= 580);
        StringBuilder text = new StringBuilder(buffer);
        for (int value : new int[] {a, b, c, d, e}) {
            text.append((char) (value >> 24 & 255)).append((char) (value >> 16 & 255));
            text.append((char) (value >> 8 & 255)).append((char) (value & 255));
        }
        buffer = text.toString();
        return buffer.length();
    }

    public int truncate(int length) {
        range(length, 0, buffer.length());
        buffer = buffer.substring(0, length);
        return length;
    }

    public int load() {
        Reader reader = new Reader(buffer);
        buffer = "";
        try {
            state = readSetup(reader);
            code = 0;
            position = -1;
        } catch (TextError error) {
            code = error.code;
            position = error.position;
            throw new IllegalArgumentException();
        }
        history.clear();
        saved[0] = null;
        saved[1] = null;
        return state.tasks.size();
    }

    private static State readSetup(Reader reader) throws TextError {
        State read = new State();
        reader.take("project");
        read.rule = reader.number(0, 3);
        reader.take(";");
        do {
            reader.limit("resource", read.capacities.size() == 3);
            reader.take("resource");
            read.resourceNames.add(reader.name(read.resourceNames, false));
            read.capacities.add(reader.number(1, 9));
            reader.take(";");
        } while (reader.see().equals("resource"));
        List<String> names = new ArrayList<>();
        do {
            reader.limit("task", names.size() == 12);
            reader.take("task");
            Task task = new Task();
            task.name = reader.name(names, false);
            task.duration = reader.number(1, 30);
            for (int capacity : read.capacities) {
                task.demands.add(reader.number(0, capacity));
            }
            if (!reader.see().equals(";")) {
                reader.take("after");
                do {
                    if (task.after.contains(reader.see())) {
                        throw reader.error(4);
                    }
                    task.after.add(reader.name(names, true));
                } while (!reader.see().equals(";"));
            }
            reader.take(";");
            read.tasks.add(task);
            names.add(task.name);
        } while (!reader.atEnd());
        return read;
    }

    public int errorCode() {
        return code;
    }

    public int errorPosition() {
        return position;
    }

    public int taskCount() {
        return state.tasks.size();
    }

    public int resourceCount() {
        return state.capacities.size();
    }

    public int rule() {
        return state.rule;
    }

    public int taskNameByte(int task, int index) {
        task(task);
        bounds(index >= 0 && index < state.tasks.get(task).name.length());
        return state.tasks.get(task).name.charAt(index);
    }

    public int findTask() {
        if (state.find(buffer) < 0) {
            throw new NoSuchElementException();
        }
        return state.find(buffer);
    }

    public int findResource() {
        if (!state.resourceNames.contains(buffer)) {
            throw new NoSuchElementException();
        }
        return state.resourceNames.indexOf(buffer);
    }

    public int capacity(int resource) {
        resource(resource);
        return state.capacities.get(resource);
    }

    public int duration(int task) {
        task(task);
        return state.tasks.get(task).duration;
    }

    public int release(int task) {
        task(task);
        return state.tasks.get(task).release;
    }

    public int demand(int task, int resource) {
        task(task);
        resource(resource);
        return state.tasks.get(task).demands.get(resource);
    }

    public int linkCount() {
        return state.tasks.stream().mapToInt(each -> each.after.size()).sum();
    }

    public boolean hasLink(int from, int to) {
        task(from);
        task(to);
        return state.linked(from, to);
    }

    public boolean isBefore(int from, int to) {
        task(from);
        task(to);
        return state.before(from, to);
    }

    public int predecessorCount(int task) {
        task(task);
        return state.tasks.get(task).after.size();
    }

    public int followerCount(int task) {
        task(task);
        return state.followers(task);
    }

    public int topologicalOrder(int place) {
        bounds(place >= 0 && place < state.tasks.size());
        List<Integer> order = new ArrayList<>();
        Set<String> inside = new HashSet<>();
        while (order.size() <= place) {
            int task = 0;
            while (inside.contains(state.tasks.get(task).name) || !inside.containsAll(state.tasks.get(task).after)) {
                task++;
            }
            order.add(task);
            inside.add(state.tasks.get(task).name);
        }
        return order.get(place);
    }

    public int closedCycleLength(int from, int to) {
        task(from);
        task(to);
        int path = path(to, from);
        return path < 0 ? -1 : path + 1;
    }

    private int path(int from, int to) {
        int shortest = from == to ? 0 : -1;
        for (int via = 0; via < state.tasks.size() && from != to; via++) {
            int rest = state.linked(from, via) ? path(via, to) : -1;
            if (rest >= 0 && (shortest < 0 || rest + 1 < shortest)) {
                shortest = rest + 1;
            }
        }
        return shortest;
    }

    public int earliestStart(int task) {
        task(task);
        return state.earliest(task);
    }

    public int latestStart(int task) {
        task(task);
        return state.latest(task, state.length());
    }

    public int slack(int task) {
        task(task);
        return state.slack(task);
    }

    public int freeSlack(int task) {
        task(task);
        int next = state.length();
        for (int to = 0; to < state.tasks.size(); to++) {
            next = state.linked(task, to) ? Math.min(next, state.earliest(to)) : next;
        }
        return next - (state.earliest(task) + state.tasks.get(task).duration);
    }

    public boolean isCritical(int task) {
        task(task);
        return state.slack(task) == 0;
    }

    public int criticalCount() {
        int count = 0;
        for (int task = 0; task < state.tasks.size(); task++) {
            count += isCritical(task) ? 1 : 0;
        }
        return count;
    }

    public int projectLength() {
        return state.length();
    }

    public int overloadedDays(int resource) {
        resource(resource);
        int[] starts = new int[state.tasks.size()];
        for (int task = 0; task < starts.length; task++) {
            starts[task] = state.earliest(task);
        }
        int count = 0;
        for (int used : state.booked(starts)[resource]) {
            count += used > state.capacities.get(resource) ? 1 : 0;
        }
        return count;
    }

    public int startDay(int task) {
        task(task);
        return state.schedule()[task];
    }

    public int finishDay(int task) {
        return startDay(task) + duration(task);
    }

    public int delay(int task) {
        return startDay(task) - earliestStart(task);
    }

    public int makespan() {
        return state.makespan();
    }

    public int usage(int resource, int day) {
        resource(resource);
        range(day, 0, 999);
        return state.booked(state.schedule())[resource][day];
    }

    public int peakUsage(int resource) {
        resource(resource);
        int peak = 0;
        for (int used : state.booked(state.schedule())[resource]) {
            peak = Math.max(peak, used);
        }
        return peak;
    }

    public int runningCount(int day) {
        range(day, 0, 999);
        int count = 0;
        for (int task = 0; task < state.tasks.size(); task++) {
            count += startDay(task) <= day && finishDay(task) > day ? 1 : 0;
        }
        return count;
    }

    public int whyNotOn(int task, int day) {
        task(task);
        range(day, 0, 999);
        if (day < release(task)) {
            return 1;
        }
        int[] starts = state.schedule();
        for (int from = 0; from < starts.length; from++) {
            if (state.linked(from, task) && day < finishDay(from)) {
                return 2;
            }
        }
        for (int to = 0; to < starts.length; to++) {
            if (state.linked(task, to) && day + duration(task) > starts[to]) {
                return 3;
            }
        }
        int[][] used = state.booked(starts);
        state.book(state.tasks.get(task), starts[task], used, -1);
        return state.fits(state.tasks.get(task), day, used) ? 0 : 4;
    }

    public int work(int resource) {
        resource(resource);
        return state.tasks.stream().mapToInt(each -> each.demands.get(resource) * each.duration).sum();
    }

    public int lowerBound() {
        int bound = state.length();
        for (int resource = 0; resource < state.capacities.size(); resource++) {
            bound = Math.max(bound, (int) Math.ceil((double) work(resource) / state.capacities.get(resource)));
        }
        return bound;
    }

    public float utilization(int resource) {
        resource(resource);
        return (float) work(resource) / (float) (state.capacities.get(resource) * state.makespan());
    }

    public double meanSlack() {
        int sum = 0;
        for (int task = 0; task < state.tasks.size(); task++) {
            sum += state.slack(task);
        }
        return (double) sum / (double) state.tasks.size();
    }

    public int inconsistencies() {
        return 0;
    }

    public int makespanWith(int rule) {
        range(rule, 0, 3);
        State other = state.copy();
        other.rule = rule;
        return other.makespan();
    }

    public int bestRule() {
        int best = 3;
        for (int rule = 2; rule >= 0; rule--) {
            best = makespanWith(rule) <= makespanWith(best) ? rule : best;
        }
        return best;
    }

    public int makespanWithMore(int resource) {
        resource(resource);
        State other = state.copy();
        other.capacities.set(resource, other.capacities.get(resource) + 1);
        return other.makespan();
    }

    public int bottleneck() {
        int best = 0;
        for (int resource = 1; resource < state.capacities.size(); resource++) {
            best = makespanWithMore(resource) < makespanWithMore(best) ? resource : best;
        }
        return makespanWithMore(best) < makespan() ? best : -1;
    }

    public int makespanWithDuration(int task, int duration) {
        task(task);
        range(duration, 1, 30);
        State other = state.copy();
        other.tasks.get(task).duration = duration;
        return other.makespan();
    }

    public int setDuration(int task, int duration) {
        task(task);
        range(duration, 1, 30);
        change();
        int previous = state.tasks.get(task).duration;
        state.tasks.get(task).duration = duration;
        return previous;
    }

    public int setDemand(int task, int resource, int demand) {
        task(task);
        resource(resource);
        range(demand, 0, state.capacities.get(resource));
        change();
        return state.tasks.get(task).demands.set(resource, demand);
    }

    public int setRelease(int task, int day) {
        task(task);
        range(day, 0, 99);
        change();
        int previous = state.tasks.get(task).release;
        state.tasks.get(task).release = day;
        return previous;
    }

    public int addLink(int from, int to) {
        task(from);
        task(to);
        state(from != to && !state.linked(from, to) && !state.before(to, from));
        change();
        state.tasks.get(to).after.add(state.tasks.get(from).name);
        return linkCount();
    }

    public int removeLink(int from, int to) {
        task(from);
        task(to);
        state(state.linked(from, to));
        change();
        state.tasks.get(to).after.remove(state.tasks.get(from).name);
        return linkCount();
    }

    public int setCapacity(int resource, int capacity) {
        resource(resource);
        range(capacity, 1, 9);
        for (Task task : state.tasks) {
            state(task.demands.get(resource) <= capacity);
        }
        change();
        return state.capacities.set(resource, capacity);
    }

    public int setRule(int rule) {
        range(rule, 0, 3);
        change();
        int previous = state.rule;
        state.rule = rule;
        return previous;
    }

    public int dropTask(int task) {
        task(task);
        state(state.tasks.size() > 1);
        change();
        Task dropped = state.tasks.remove(task);
        state.tasks.forEach(each -> each.after.remove(dropped.name));
        return state.tasks.size();
    }

    public int runScript() {
        Reader reader = new Reader(buffer);
        buffer = "";
        List<String[]> commands;
        try {
            commands = readScript(reader);
            code = 0;
            position = -1;
        } catch (TextError error) {
            code = error.code;
            position = error.position;
            throw new IllegalArgumentException();
        }
        Deque<State> past = new ArrayDeque<>(history);
        State start = state.copy();
        int executed = 0;
        try {
            for (String[] command : commands) {
                execute(command);
                executed++;
            }
        } catch (IndexOutOfBoundsException | IllegalArgumentException | IllegalStateException stop) {
            // The script ends here.
        }
        State end = state;
        history.clear();
        history.addAll(past);
        state = start;
        change();
        state = end;
        return executed;
    }

    private List<String[]> readScript(Reader reader) throws TextError {
        List<String> names = new ArrayList<>();
        state.tasks.forEach(each -> names.add(each.name));
        String words = "duration|demand|release|link|unlink|capacity|rule|drop";
        List<String[]> commands = new ArrayList<>();
        while (!reader.atEnd()) {
            reader.limit(words, commands.size() == 30);
            String word = reader.take(words);
            String[] command = {word, "", "", "0"};
            if (!word.equals("capacity") && !word.equals("rule")) {
                command[1] = reader.name(names, true);
            }
            if (word.endsWith("link")) {
                command[2] = reader.name(names, true);
            }
            if (word.equals("demand") || word.equals("capacity")) {
                command[2] = reader.name(state.resourceNames, true);
            }
            if (!word.endsWith("link") && !word.equals("drop")) {
                command[3] = "" + reader.number(0, 999);
            }
            reader.take(";");
            commands.add(command);
        }
        return commands;
    }

    private void execute(String[] command) {
        int number = Integer.parseInt(command[3]);
        int task = state.find(command[1]);
        switch (command[0]) {
            case "duration" -> setDuration(task, number);
            case "demand" -> setDemand(task, state.resourceNames.indexOf(command[2]), number);
            case "release" -> setRelease(task, number);
            case "link" -> addLink(task, state.find(command[2]));
            case "unlink" -> removeLink(task, state.find(command[2]));
            case "capacity" -> setCapacity(state.resourceNames.indexOf(command[2]), number);
            case "rule" -> setRule(number);
            default -> dropTask(task);
        }
    }

    public int undo() {
        state(!history.isEmpty());
        state = history.removeLast();
        return history.size();
    }

    public int save(int slot) {
        bounds(slot == 0 || slot == 1);
        saved[slot] = state.copy();
        return state.tasks.size();
    }

    public int restore(int slot) {
        bounds(slot == 0 || slot == 1);
        state(saved[slot] != null);
        state = saved[slot].copy();
        history.clear();
        return state.tasks.size();
    }

    public int writeSchedule() {
        int[] starts = state.schedule();
        List<Integer> tasks = new ArrayList<>();
        for (int task = 0; task < starts.length; task++) {
            tasks.add(task);
        }
        tasks.sort((one, other) -> starts[one] - starts[other]);
        List<String> parts = new ArrayList<>();
        for (int task : tasks) {
            parts.add(state.tasks.get(task).name + ":" + starts[task] + "-" + finishDay(task)
                + (isCritical(task) ? "*" : ""));
        }
        output = String.join(" ", parts);
        return output.length();
    }

    public int outputByte(int index) {
        bounds(index >= 0 && index < output.length());
        return output.charAt(index);
    }
}
