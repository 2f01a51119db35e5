import java.util.ArrayList;
import java.util.List;

/** Everything that a planner shows, in parts that keep well under 512 calls. */
final class Shown {
    interface Part {
        String of(ProjectPlanner planner);
    }

    private static final int DAYS = 30;

    private Shown() {
    }

    static List<Part> allButTexts() {
        List<Part> parts = new ArrayList<>(List.of(Shown::project, Shown::paths, Shown::cycles, Shown::dates,
            Shown::schedule, Shown::days, Shown::wishes, Shown::output));
        for (int times = 1; times <= 7; times++) {
            int count = times;
            parts.add(planner -> undone(planner, count));
        }
        parts.add(planner -> restored(planner, 0));
        parts.add(planner -> restored(planner, 1));
        return parts;
    }

    static List<Part> all() {
        List<Part> parts = allButTexts();
        parts.add(Shown::errors);
        parts.add(Shown::buffer);
        return parts;
    }

    static String project(ProjectPlanner planner) {
        StringBuilder text = new StringBuilder();
        text.append(planner.rule()).append('/');
        for (int resource = 0; resource < planner.resourceCount(); resource++) {
            text.append(planner.capacity(resource)).append(' ');
        }
        for (int task = 0; task < planner.taskCount(); task++) {
            text.append('/').append(Typist.taskName(planner, task)).append(' ').append(planner.duration(task));
            text.append(' ').append(planner.release(task));
            for (int resource = 0; resource < planner.resourceCount(); resource++) {
                text.append(' ').append(planner.demand(task, resource));
            }
            for (int from = 0; from < planner.taskCount(); from++) {
                text.append(planner.hasLink(from, task) ? " after " + from : "");
            }
        }
        return text.toString();
    }

    static String names(ProjectPlanner planner) {
        return each(planner, task -> Typist.taskName(planner, task));
    }

    static String paths(ProjectPlanner planner) {
        StringBuilder text = new StringBuilder("paths " + planner.linkCount());
        for (int from = 0; from < planner.taskCount(); from++) {
            text.append(' ').append(planner.topologicalOrder(from)).append(' ').append(planner.followerCount(from));
            text.append(' ').append(planner.predecessorCount(from)).append(' ');
            for (int to = 0; to < planner.taskCount(); to++) {
                text.append(planner.isBefore(from, to) ? '<' : '.');
            }
        }
        return text.toString();
    }

    static String cycles(ProjectPlanner planner) {
        StringBuilder text = new StringBuilder("cycles");
        for (int from = 0; from < planner.taskCount(); from++) {
            for (int to = 0; to < planner.taskCount(); to++) {
                text.append(' ').append(planner.closedCycleLength(from, to));
            }
        }
        return text.toString();
    }

    static String dates(ProjectPlanner planner) {
        StringBuilder text = new StringBuilder("dates " + planner.projectLength() + " " + planner.criticalCount());
        text.append(' ').append(planner.lowerBound()).append(' ').append(planner.meanSlack()).append('/');
        for (int resource = 0; resource < planner.resourceCount(); resource++) {
            text.append(planner.overloadedDays(resource)).append(' ').append(planner.work(resource)).append('/');
        }
        for (int task = 0; task < planner.taskCount(); task++) {
            text.append(planner.earliestStart(task)).append(' ').append(planner.latestStart(task)).append(' ');
            text.append(planner.slack(task)).append(' ').append(planner.freeSlack(task));
            text.append(planner.isCritical(task) ? "*/" : "/");
        }
        return text.toString();
    }

    static String schedule(ProjectPlanner planner) {
        StringBuilder text = new StringBuilder("schedule " + planner.makespan() + " " + planner.inconsistencies());
        for (int resource = 0; resource < planner.resourceCount(); resource++) {
            text.append('/').append(planner.peakUsage(resource)).append(' ').append(planner.utilization(resource));
        }
        for (int task = 0; task < planner.taskCount(); task++) {
            text.append('/').append(planner.startDay(task)).append('-').append(planner.finishDay(task));
            text.append(' ').append(planner.delay(task));
        }
        return text.toString();
    }

    static String days(ProjectPlanner planner) {
        StringBuilder text = new StringBuilder("days");
        for (int day = 0; day < DAYS; day++) {
            text.append('/').append(planner.runningCount(day));
            for (int resource = 0; resource < planner.resourceCount(); resource++) {
                text.append(' ').append(planner.usage(resource, day));
            }
            for (int task = 0; task < planner.taskCount(); task++) {
                text.append(day % 3 == 0 ? " " + planner.whyNotOn(task, day) : "");
            }
        }
        return text.toString();
    }

    static String wishes(ProjectPlanner planner) {
        StringBuilder text = new StringBuilder("wishes " + planner.bestRule() + " " + planner.bottleneck());
        for (int rule = 0; rule <= 3; rule++) {
            text.append(' ').append(planner.makespanWith(rule));
        }
        for (int resource = 0; resource < planner.resourceCount(); resource++) {
            text.append('/').append(planner.makespanWithMore(resource));
        }
        for (int task = 0; task < planner.taskCount(); task++) {
            text.append('/').append(planner.makespanWithDuration(task, 1));
            text.append(' ').append(planner.makespanWithDuration(task, 30));
        }
        return text.toString();
    }

    /** The output text as it stands. */
    static String output(ProjectPlanner planner) {
        StringBuilder text = new StringBuilder("output ");
        for (int index = 0; index < 256; index++) {
            int place = index;
            Object letter = Check.answer(() -> planner.outputByte(place));
            if (!(letter instanceof Integer)) {
                return text.append(letter).toString();
            }
            text.append((char) (int) letter);
        }
        return text.toString();
    }

    static String errors(ProjectPlanner planner) {
        return "error " + planner.errorCode() + " at " + planner.errorPosition();
    }

    /** The length of the input buffer; what is behind it is lost. */
    static int length(ProjectPlanner planner) {
        Object appended = Check.answer(() -> planner.append(0, 0, 0, 0, 0));
        if (appended instanceof Integer) {
            return planner.truncate((int) appended - 20);
        }
        for (int length = 600; length > 580; length--) {
            int most = length;
            Object cut = Check.answer(() -> planner.truncate(most));
            if (cut.equals(length)) {
                return length;
            }
        }
        return -1;
    }

    /** The buffer by its length, by what it names, and by what it says as a setup text. */
    static String buffer(ProjectPlanner planner) {
        return "buffer " + length(planner) + " " + Check.answer(planner::findTask) + " "
            + Check.answer(planner::findResource) + " " + Check.answer(planner::load) + " " + errors(planner) + " "
            + project(planner);
    }

    static String undone(ProjectPlanner planner, int times) {
        StringBuilder text = new StringBuilder("undone");
        for (int time = 0; time < times; time++) {
            text.append(' ').append(Check.answer(planner::undo));
        }
        return text.append('/').append(project(planner)).toString();
    }

    static String restored(ProjectPlanner planner, int slot) {
        return "restored " + Check.answer(() -> planner.restore(slot)) + "/" + project(planner);
    }

    interface OfTask {
        Object answer(int task);
    }

    /** An answer for each task, with a space between them. */
    static String each(ProjectPlanner planner, OfTask question) {
        List<String> answers = new ArrayList<>();
        for (int task = 0; task < planner.taskCount(); task++) {
            answers.add(question.answer(task).toString());
        }
        return String.join(" ", answers);
    }
}
