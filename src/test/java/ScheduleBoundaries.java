/** Promises 24 to 49: the dates, the schedule, its figures, and what would be. */
final class ScheduleBoundaries extends Boundary {
    private static final String LINKED = ONE_UNIT + "task a 5 0;task b 7 0;task c 2 0 after a b;task d 1 0 after a;";

    private static String starts(ProjectPlanner planner) {
        return Shown.each(planner, planner::startDay);
    }

    private static String starts(String setup) {
        return starts(loaded(setup));
    }

    private static ProjectPlanner released(ProjectPlanner planner, int task, int day) {
        planner.setRelease(task, day);
        return planner;
    }

    /** 12 tasks in a row from day 99 on, so that everything is as late as it can be. */
    private static ProjectPlanner latest() {
        return released(loaded(FULL), 0, 99);
    }

    /** 11 tasks in a row from day 99 to day 429, and one of a single day beside them. */
    private static ProjectPlanner longSlack() {
        ProjectPlanner planner = latest();
        planner.removeLink(10, 11);
        planner.setDuration(11, 1);
        return planner;
    }

    // ---- 24 to 31, dates without resource limits

    static void p24_theGreatestOfReleaseAndPredecessors() {
        says("Returns the earliest start of a task.", "Returns the day.",
            "The earliest start of a task is the greatest one of its release day and the earliest finishes of its "
            + "predecessors.", "The earliest finish is the earliest start plus the duration.");
        ProjectPlanner planner = loaded(LINKED);
        is("the later predecessor", Shown.each(planner, planner::earliestStart), "0 0 7 5");
        is("released the day before", released(planner, 3, 4).earliestStart(3), 5);
        is("released the same day", released(planner, 3, 5).earliestStart(3), 5);
        is("released the day after", released(planner, 3, 6).earliestStart(3), 6);
        is("backward", Shown.each(backward(), backward()::earliestStart), "11 10 9 8 7 6 5 4 3 2 1 0");
        is("the predecessor's release", released(planner, 0, 3).earliestStart(2), 8);
        is("only one predecessor's", planner.earliestStart(3), 8);
        question(Boundary::eventful, asked -> asked.earliestStart(2), 12);
    }

    static void p24_fromDay0ToDay429() {
        says("Days are numbered from 0.");
        is("the first day", loaded(LEAST).earliestStart(0), 0);
        is("the last release", released(loaded(LEAST), 0, 99).earliestStart(0), 99);
        is("the last day of all", latest().earliestStart(11), 429);
    }

    static void p24_noSuchTask() {
        says("Throws `IndexOutOfBoundsException` if the task does not exist");
        onlyTasks(ProjectPlanner::earliestStart);
    }

    static void p25_theLeastOfTheSuccessors() {
        says("Returns the latest start of a task.", "Returns the day.",
            "The latest finish of a task is the least latest start of its successors, or the project length if it has no "
            + "successors.", "The latest start is the latest finish minus the duration.");
        ProjectPlanner planner = loaded(LINKED);
        is("the earlier successor", Shown.each(planner, planner::latestStart), "2 0 7 8");
        planner.setDuration(3, 4);
        is("now the other one", planner.latestStart(0), 0);
        is("the other one itself", planner.latestStart(3), 5);
        planner.setDuration(3, 3);
        is("one day between them", Shown.each(planner, planner::latestStart), "1 0 7 6");
        is("backward", Shown.each(backward(), backward()::latestStart), "11 10 9 8 7 6 5 4 3 2 1 0");
        question(Boundary::eventful, asked -> asked.latestStart(1), 6);
    }

    static void p25_withoutSuccessors() {
        says("The latest finish of a task is the least latest start of its successors, or the project length if it has no "
            + "successors.");
        is("alone", loaded(LEAST).latestStart(0), 0);
        ProjectPlanner planner = loaded(ONE_UNIT + "task a 30 0;task b 1 0;task c 29 0;");
        is(Shown.each(planner, planner::latestStart), "0 29 1");
        is("the length, not the makespan", loaded(ONE_UNIT + "task a 3 1;task b 3 1;").latestStart(0), 0);
        is("far off", longSlack().latestStart(11), 428);
        is("the last of all", latest().latestStart(11), 429);
    }

    static void p25_noSuchTask() {
        says("Throws `IndexOutOfBoundsException` if the task does not exist");
        onlyTasks(ProjectPlanner::latestStart);
    }

    static void p26_fromNothingOn() {
        says("Returns the slack of a task.", "Returns the slack in days.",
            "The slack of a task is its latest start minus its earliest start.");
        ProjectPlanner planner = loaded(LINKED);
        is(Shown.each(planner, planner::slack), "2 0 0 3");
        is("none at all", Shown.each(latest(), latest()::slack), "0 0 0 0 0 0 0 0 0 0 0 0");
        is("backward", Shown.each(backward(), backward()::slack), "0 0 0 0 0 0 0 0 0 0 0 0");
        is("the most", longSlack().slack(11), 428);
        is("a release takes it", released(longSlack(), 11, 99).slack(11), 329);
        question(Boundary::eventful, asked -> asked.slack(3), 4);
    }

    static void p26_noSuchTask() {
        says("Throws `IndexOutOfBoundsException` if the task does not exist");
        onlyTasks(ProjectPlanner::slack);
    }

    static void p27_upToTheNextSuccessor() {
        says("Returns the free slack of a task.", "Returns the free slack in days.",
            "The free slack of a task is the least earliest start of its successors, or the project length if it has "
            + "none, minus its earliest finish.");
        ProjectPlanner planner = loaded(LINKED);
        is("less than the slack", Shown.each(planner, planner::freeSlack), "0 0 0 3");
        is("the successor waits for its release", released(planner, 3, 6).freeSlack(0), 1);
        is("the nearer successor", released(planner, 3, 9).freeSlack(0), 2);
        is("the most", longSlack().freeSlack(11), 428);
        is("backward", Shown.each(backward(), backward()::freeSlack), "0 0 0 0 0 0 0 0 0 0 0 0");
        is("backward", released(backward(), 0, 50).freeSlack(1), 39);
        is("alone", loaded(LEAST).freeSlack(0), 0);
        question(Boundary::eventful, asked -> asked.freeSlack(3), 1);
        question(Boundary::eventful, asked -> asked.freeSlack(4), 3);
    }

    static void p27_noSuchTask() {
        says("Throws `IndexOutOfBoundsException` if the task does not exist");
        onlyTasks(ProjectPlanner::freeSlack);
    }

    static void p28_withoutSlack() {
        says("Tells whether a task is critical.", "Returns whether its slack is 0.",
            "A task is critical if its slack is 0.");
        ProjectPlanner planner = loaded(ONE_UNIT + "task a 5 0;task b 4 0;task c 5 0;");
        is("a slack of 1", Shown.each(planner, planner::isCritical), "true false true");
        is("a slack of 0", released(planner, 1, 1).isCritical(1), true);
        is("the other two now", Shown.each(released(planner, 1, 2), planner::isCritical), "false true false");
        is("by the dates, not by the schedule", loaded(ONE_UNIT + "task a 2 1;task b 2 1;").isCritical(1), true);
        question(Boundary::eventful, asked -> asked.isCritical(2), true);
        question(Boundary::eventful, asked -> asked.isCritical(0), false);
    }

    static void p28_noSuchTask() {
        says("Throws `IndexOutOfBoundsException` if the task does not exist");
        onlyTasks(ProjectPlanner::isCritical);
    }

    static void p29_fromOneToAll() {
        says("Counts the critical tasks.", "Returns the number of critical tasks.");
        is("the only one", loaded(LEAST).criticalCount(), 1);
        is("all", loaded(FULL).criticalCount(), 12);
        is("all but one", longSlack().criticalCount(), 11);
        is("all, without links", loaded(bare(12)).criticalCount(), 12);
        is("one of twelve", released(loaded(bare(12)), 7, 1).criticalCount(), 1);
        question(Boundary::eventful, ProjectPlanner::criticalCount, 1);
    }

    static void p30_from1To459() {
        says("Returns the project length.", "Returns the greatest earliest finish.",
            "The project length is the greatest earliest finish.");
        is("the least", loaded(LEAST).projectLength(), 1);
        is("the greatest", latest().projectLength(), 459);
        is("not that of the last task", loaded(ONE_UNIT + "task a 2 0;task b 9 0;task c 3 0 after a;").projectLength(), 9);
        is("without resource limits", loaded(ONE_UNIT + "task a 4 1;task b 4 1;").projectLength(), 4);
        question(Boundary::eventful, ProjectPlanner::projectLength, 14);
    }

    static void p31_moreThanTheCapacity() {
        says("Counts the days on which a resource would be overloaded without resource limits.",
            "Returns the number of days on which the sum of the demands of the tasks that run on this day, if all tasks "
            + "start at their earliest starts, exceeds the capacity.");
        ProjectPlanner planner = loaded("project 0;resource p 3;resource q 3;resource r 3;task a 5 1 2 3;task b 3 2 2 0;");
        is("just the capacity", planner.overloadedDays(0), 0);
        is("one more", planner.overloadedDays(1), 3);
        is("alone", planner.overloadedDays(2), 0);
        is("one more on the last day", released(planner, 1, 4).overloadedDays(1), 1);
        is("behind the last day", released(planner, 1, 5).overloadedDays(1), 0);
        is("the first day", loaded(ONE_UNIT + "task a 1 1;task b 3 1;").overloadedDays(0), 1);
        question(Boundary::eventful, asked -> asked.overloadedDays(0), 0);
    }

    static void p31_fromNoDayToMany() {
        says("Returns the number of days on which the sum of the demands of the tasks that run on this day, if all tasks "
            + "start at their earliest starts, exceeds the capacity.");
        is("no demand", loaded(bare(12)).overloadedDays(0), 0);
        is("always at the capacity", latest().overloadedDays(2), 0);
        ProjectPlanner planner = loaded(ONE_UNIT + "task a 30 1;task b 30 1 after a;task c 30 1 after b;task d 30 1 after c;"
            + "task e 30 1 after d;task f 30 1 after e;task g 30 1;task h 30 1 after g;task i 30 1 after h;"
            + "task j 30 1 after i;task k 30 1 after j;task l 30 1 after k;");
        is("all along", planner.overloadedDays(0), 180);
        is("far off", released(released(planner, 0, 99), 6, 99).overloadedDays(0), 180);
        is("a gap of two days", released(released(released(planner, 0, 0), 6, 0), 1, 32).overloadedDays(0), 178);
        is("on a day of all twelve", loaded(bare(12).replace(" 0;", " 1;").replace("project 1", "project 0"))
            .overloadedDays(0), 1);
    }

    static void p31_noSuchResource() {
        says("Throws `IndexOutOfBoundsException` if the resource does not exist");
        onlyResources(ProjectPlanner::overloadedDays);
    }

    // ---- 32 to 35, the schedule

    static void p32_theRules() {
        says("Returns the start day of a task in the schedule.", "Returns the start day.",
            "The rules are: rule 0, the lowest number; rule 1, the least latest start; rule 2, the greatest duration; "
            + "rule 3, the greatest number of tasks that it is before.");
        String two = ";resource r 1;task a 1 1;task b 2 1;";
        is("rule 0", starts("project 0" + two), "0 1");
        is("rule 1", starts("project 1" + two), "2 0");
        is("rule 2", starts("project 2" + two), "2 0");
        is("rule 3", starts("project 3" + two), "0 1");
        String behind = ";resource r 1;task a 3 1;task b 1 1;task c 1 0 after b;";
        is("rule 0", starts("project 0" + behind), "0 3 4");
        is("rule 1", starts("project 1" + behind), "0 3 4");
        is("rule 2", starts("project 2" + behind), "0 3 4");
        is("rule 3", starts("project 3" + behind), "1 0 1");
    }

    static void p32_allTheTasksThatItIsBefore() {
        says("The rules are: rule 0, the lowest number; rule 1, the least latest start; rule 2, the greatest duration; "
            + "rule 3, the greatest number of tasks that it is before.");
        is("three in a row beat two successors", starts("project 3;resource r 1;task a 1 1;task b 1 1;task c 1 0 after a;"
            + "task d 1 0 after a;task e 1 0 after b;task f 1 0 after e;task g 1 0 after f;"), "1 0 2 2 1 2 3");
    }

    static void p32_theLowestNumberWinsATie() {
        says("The schedule is built step by step.", "Each step considers the tasks that are not scheduled yet and whose "
            + "predecessors are all scheduled, and selects the best one of them by the priority rule; the lowest number "
            + "wins a tie.");
        for (int rule = 0; rule <= 3; rule++) {
            is("rule " + rule, starts("project " + rule + ";resource r 1;task a 2 1;task b 2 1;task c 2 1;"), "0 2 4");
        }
        is("a tie behind the best", starts("project 2;resource r 1;task a 2 1;task b 3 1;task c 3 1;task d 2 1;"), "6 0 3 8");
        is("of twelve", starts(bare(12).replace(" 0;", " 1;").replace("project 1", "project 3")),
            "0 1 2 3 4 5 6 7 8 9 10 11");
    }

    static void p32_onlyTasksWhosePredecessorsAreScheduled() {
        says("Each step considers the tasks that are not scheduled yet and whose predecessors are all scheduled, and "
            + "selects the best one of them by the priority rule; the lowest number wins a tie.");
        is("the long one comes behind", starts("project 2;resource r 1;task a 1 1;task b 30 1 after a;task c 2 1;"), "2 3 0");
        is("all of them", starts("project 2;resource r 1;task a 1 1;task b 2 1;task c 30 1 after a b;task d 1 1;"),
            "2 0 3 33");
        ProjectPlanner planner = loaded(ONE_UNIT + "task a 1 1;task b 1 1;task c 1 1;");
        planner.addLink(2, 0);
        is("a lower number waits", starts(planner), "2 0 1");
    }

    static void p32_notBeforeItsRelease() {
        says("The selected task starts on the first day that is not less than its release day and the finish days of its "
            + "predecessors and for which, on each day on which it runs, its demand plus the usage of the tasks scheduled "
            + "so far does not exceed the capacity of any resource.");
        ProjectPlanner planner = loaded(ONE_UNIT + "task a 5 1;task b 2 1 after a;");
        is("none", starts(planner), "0 5");
        is("the day before", starts(released(planner, 1, 4)), "0 5");
        is("the same day", starts(released(planner, 1, 5)), "0 5");
        is("the day after", starts(released(planner, 1, 6)), "0 6");
        is("the last release", starts(released(planner, 1, 99)), "0 99");
        is("the predecessor's", starts(released(planner, 0, 99)), "99 104");
    }

    static void p32_notBeforeThePredecessorsFinish() {
        says("The selected task starts on the first day that is not less than its release day and the finish days of its "
            + "predecessors and for which, on each day on which it runs, its demand plus the usage of the tasks scheduled "
            + "so far does not exceed the capacity of any resource.", "(So another task can start on the finish day.)");
        is("on the finish day", starts(ONE_UNIT + "task a 5 1;task b 1 1 after a;"), "0 5");
        is("of the later one", starts(LINKED), "0 0 7 5");
        is("the finish in the schedule", starts(ONE_UNIT + "task a 5 1;task b 5 1;task c 1 0 after b;"), "0 5 10");
        is("with nothing to do too", starts(ONE_UNIT + "task a 5 0;task b 1 0 after a;"), "0 5");
    }

    static void p32_upToTheCapacity() {
        says("The selected task starts on the first day that is not less than its release day and the finish days of its "
            + "predecessors and for which, on each day on which it runs, its demand plus the usage of the tasks scheduled "
            + "so far does not exceed the capacity of any resource.");
        is("just the capacity", starts("project 0;resource r 9;task a 2 4;task b 2 5;"), "0 0");
        is("one more", starts("project 0;resource r 9;task a 2 5;task b 2 5;"), "0 2");
        is("three of them", starts("project 0;resource r 9;task a 2 3;task b 2 3;task c 2 3;task d 2 1;"), "0 0 0 2");
        is("the first resource", starts("project 0;resource p 1;resource q 2;resource r 2;task a 2 1 1 1;task b 1 1 1 1;"),
            "0 2");
        is("the second one", starts("project 0;resource p 2;resource q 1;resource r 2;task a 2 1 1 1;task b 1 1 1 1;"),
            "0 2");
        is("the third one", starts("project 0;resource p 2;resource q 2;resource r 1;task a 2 1 1 1;task b 1 1 1 1;"), "0 2");
        is("no demand has always room", starts(ONE_UNIT + "task a 30 1;task b 30 0;"), "0 0");
    }

    static void p32_onEachDayOnWhichItRuns() {
        says("The selected task starts on the first day that is not less than its release day and the finish days of its "
            + "predecessors and for which, on each day on which it runs, its demand plus the usage of the tasks scheduled "
            + "so far does not exceed the capacity of any resource.");
        String gap = "project 0;resource r 1;task a 2 1;task b 1 1;task c ";
        is("just as long as the gap", starts(released(loaded(gap + "3 1;"), 1, 5)), "0 5 2");
        is("one day longer", starts(released(loaded(gap + "4 1;"), 1, 5)), "0 5 6");
        is("before the first", starts(released(loaded(ONE_UNIT + "task a 2 1;task b 3 1;"), 0, 3)), "3 0");
        is("one day too long", starts(released(loaded(ONE_UNIT + "task a 2 1;task b 4 1;"), 0, 3)), "3 5");
        is("over a single day", starts(released(loaded(ONE_UNIT + "task a 1 1;task b 30 1;"), 0, 15)), "15 16");
        is("two gaps too small", starts(released(released(loaded(ONE_UNIT + "task a 1 1;task b 1 1;task c 4 1;"), 0, 3),
            1, 7)), "3 7 8");
        is("the second gap", starts(released(released(loaded(ONE_UNIT + "task a 1 1;task b 1 1;task c 4 1;"), 0, 3), 1, 8)),
            "3 8 4");
    }

    static void p32_noSuchTask() {
        says("Throws `IndexOutOfBoundsException` if the task does not exist");
        onlyTasks(ProjectPlanner::startDay);
        question(Boundary::eventful, asked -> asked.startDay(2), 12);
    }

    static void p33_startPlusDuration() {
        says("Returns the finish day of a task in the schedule.", "Returns the finish day.",
            "A task with the start day s and the duration d runs on the days s to s + d - 1, and its finish day is s + d.");
        is("the least", loaded(LEAST).finishDay(0), 1);
        is("the greatest", latest().finishDay(11), 459);
        ProjectPlanner planner = new ProjectPlanner();
        is(Shown.each(planner, planner::finishDay), "3 8 10 7 11");
        is("it runs up to the day before", planner.usage(1, 7) + " " + planner.usage(1, 10), "1 0");
        question(Boundary::eventful, asked -> asked.finishDay(2), 14);
    }

    static void p33_noSuchTask() {
        says("Throws `IndexOutOfBoundsException` if the task does not exist");
        onlyTasks(ProjectPlanner::finishDay);
    }

    static void p34_fromNothingOn() {
        says("Returns the delay of a task by resource limits.",
            "Returns the start day in the schedule minus the earliest start.");
        is("alone", loaded(LEAST).delay(0), 0);
        is("not by a release", released(loaded(LEAST), 0, 99).delay(0), 0);
        is("not by links", Shown.each(latest(), latest()::delay), "0 0 0 0 0 0 0 0 0 0 0 0");
        ProjectPlanner crowd = loaded(bare(12).replace(" 1 0;", " 30 1;"));
        is("the most", Shown.each(crowd, crowd::delay), "0 30 60 90 120 150 180 210 240 270 300 330");
        is("from the earliest start on", released(crowd, 11, 99).delay(11), 231);
        is("passed on by links", loaded(ONE_UNIT + "task a 2 1;task b 2 1;task c 1 0 after b;").delay(2), 2);
        question(Boundary::eventful, asked -> asked.delay(3), 0);
    }

    static void p34_noSuchTask() {
        says("Throws `IndexOutOfBoundsException` if the task does not exist");
        onlyTasks(ProjectPlanner::delay);
    }

    static void p35_from1To459() {
        says("Returns the makespan.", "Returns the greatest finish day of the schedule.",
            "The makespan is the greatest finish day of the schedule.");
        is("the least", loaded(LEAST).makespan(), 1);
        is("the greatest", latest().makespan(), 459);
        ProjectPlanner crowd = loaded(bare(12).replace(" 1 0;", " 30 1;"));
        for (int task = 0; task < 12; task++) {
            crowd.setRelease(task, 99);
        }
        is("the greatest without links", crowd.makespan(), 459);
        is("not that of the last task", loaded(ONE_UNIT + "task a 9 0;task b 2 0;").makespan(), 9);
        is("with resource limits", loaded(ONE_UNIT + "task a 4 1;task b 4 1;").makespan(), 8);
        question(Boundary::eventful, ProjectPlanner::makespan, 14);
    }

    // ---- 36 to 39, single days

    static void p36_theDaysOnWhichATaskRuns() {
        says("Returns the usage of a resource on a day of the schedule.", "Returns the usage.",
            "The usage of a resource on a day is the sum of the demands of all tasks that run on this day.",
            "A task with the start day s and the duration d runs on the days s to s + d - 1, and its finish day is s + d.");
        ProjectPlanner planner = released(loaded("project 0;resource r 9;task a 3 4;task b 2 5;"), 1, 4);
        int[] due = {4, 4, 4, 0, 5, 5, 0, 0};
        for (int day = 0; day < due.length; day++) {
            is("day " + day, planner.usage(0, day), due[day]);
        }
        is("the sum", released(planner, 1, 2).usage(0, 2), 9);
        ProjectPlanner late = latest();
        is("the day before the first", late.usage(2, 98), 0);
        is("the first", late.usage(2, 99), 9);
        is("the last", late.usage(2, 458), 9);
        is("the day behind the last", late.usage(2, 459), 0);
        question(Boundary::eventful, asked -> asked.usage(0, 3), 3);
    }

    static void p36_days0To999() {
        says("`day`: 0 to 999", "Throws `IllegalArgumentException` if day is out of range");
        onlyArguments(0, 999, (planner, day) -> planner.usage(1, day));
    }

    static void p36_noSuchResource() {
        says("Throws `IndexOutOfBoundsException` if the resource does not exist",
            "If several exceptions apply, the one that is listed first is thrown.");
        onlyResources((planner, resource) -> planner.usage(resource, 0));
        outOfBounds(planner -> planner.usage(2, -1));
        outOfBounds(planner -> planner.usage(-1, 1000));
    }

    static void p37_theGreatestUsage() {
        says("Returns the greatest usage of a resource in the schedule.", "Returns the greatest usage on any day.");
        is("nobody", loaded(LEAST).peakUsage(0), 0);
        is("the most", loaded(FULL).peakUsage(2), 9);
        is("on the last day", released(loaded("project 0;resource r 9;task a 3 4;task b 1 7;"), 1, 3).peakUsage(0), 7);
        is("on the last day of two", released(loaded("project 0;resource r 9;task a 3 4;task b 1 5;"), 1, 2).peakUsage(0), 9);
        is("on the first day", loaded("project 0;resource r 9;task a 1 9;task b 3 1;").peakUsage(0), 9);
        is("far off", released(loaded("project 0;resource r 9;task a 1 1;task b 1 2;"), 1, 99).peakUsage(0), 2);
        is("in the schedule", loaded(ONE_UNIT + "task a 1 1;task b 1 1;").peakUsage(0), 1);
        question(Boundary::eventful, asked -> asked.peakUsage(0), 3);
    }

    static void p37_noSuchResource() {
        says("Throws `IndexOutOfBoundsException` if the resource does not exist");
        onlyResources(ProjectPlanner::peakUsage);
    }

    static void p38_fromNoneToAll() {
        says("Counts the tasks that run on a day of the schedule.", "Returns the number of tasks.",
            "A task with the start day s and the duration d runs on the days s to s + d - 1, and its finish day is s + d.");
        is("all", loaded(bare(12)).runningCount(0), 12);
        is("none", loaded(bare(12)).runningCount(1), 0);
        is("without a demand too", loaded(LEAST).runningCount(0), 1);
        ProjectPlanner late = latest();
        is("the day before the first", late.runningCount(98), 0);
        is("the first", late.runningCount(99), 1);
        is("a finish day is the next one's start day", late.runningCount(129), 1);
        is("the last", late.runningCount(458), 1);
        is("the day behind the last", late.runningCount(459), 0);
        question(Boundary::eventful, asked -> asked.runningCount(3), 2);
    }

    static void p38_days0To999() {
        says("`day`: 0 to 999", "Throws `IllegalArgumentException` if day is out of range");
        onlyArguments(0, 999, ProjectPlanner::runningCount);
    }

    /** a on the days 0 and 1, b on 2 to 4, c on 5 and 6, d on 0 to 3, with one unit each of two. */
    private static ProjectPlanner row() {
        return loaded("project 0;resource r 2;task a 2 1;task b 3 1 after a;task c 2 1 after b;task d 4 1;");
    }

    static void p39_reason1() {
        says("Returns the first reason that applies: 1 if the day is less than the release day, 2 if it is less than the "
            + "finish day of a predecessor, 3 if the task would finish after the start day of a successor, 4 if the usage "
            + "of a resource would exceed its capacity on a day on which the task would run; 0 if it can start on this "
            + "day.", "Tells why a task cannot start on another day while all other tasks keep their days of the schedule.");
        ProjectPlanner planner = released(row(), 3, 50);
        is("the day before the release", planner.whyNotOn(3, 49), 1);
        is("the release day", planner.whyNotOn(3, 50), 0);
        is("the first day of all", planner.whyNotOn(3, 0), 1);
        is("before reason 2", released(row(), 1, 2).whyNotOn(1, 1), 1);
        is("before reason 4", released(loaded(ONE_UNIT + "task a 5 1;task b 1 1;"), 1, 3).whyNotOn(1, 2), 1);
        is("the last release", released(row(), 3, 99).whyNotOn(3, 98), 1);
        is("the last release", released(row(), 3, 99).whyNotOn(3, 99), 0);
        is("released on day 0", row().whyNotOn(3, 0), 0);
    }

    static void p39_reason2() {
        says("Returns the first reason that applies: 1 if the day is less than the release day, 2 if it is less than the "
            + "finish day of a predecessor, 3 if the task would finish after the start day of a successor, 4 if the usage "
            + "of a resource would exceed its capacity on a day on which the task would run; 0 if it can start on this "
            + "day.");
        is("the day before the predecessor's finish", row().whyNotOn(1, 1), 2);
        is("the predecessor's finish day", row().whyNotOn(1, 2), 0);
        ProjectPlanner planner = row();
        planner.addLink(3, 2);
        is("one of two predecessors", planner.whyNotOn(2, 4), 2);
        is("both of them", planner.whyNotOn(2, 5), 0);
        ProjectPlanner tight = loaded(ONE_UNIT + "task a 2 1;task b 3 1 after a;task c 2 1 after b;");
        tight.setRelease(2, 4);
        is("before reason 4", tight.whyNotOn(1, 0), 2);
    }

    static void p39_reason3() {
        says("Returns the first reason that applies: 1 if the day is less than the release day, 2 if it is less than the "
            + "finish day of a predecessor, 3 if the task would finish after the start day of a successor, 4 if the usage "
            + "of a resource would exceed its capacity on a day on which the task would run; 0 if it can start on this "
            + "day.");
        is("a finish on the successor's start day", row().whyNotOn(0, 0), 0);
        is("a finish one day later", row().whyNotOn(0, 1), 3);
        is("far behind", row().whyNotOn(0, 999), 3);
        is("backward", backward().whyNotOn(1, 10) + " " + backward().whyNotOn(1, 11), "0 3");
        ProjectPlanner planner = released(row(), 2, 9);
        is("a finish on the start day", planner.whyNotOn(1, 6), 0);
        is("a finish one day later", planner.whyNotOn(1, 7), 3);
        planner.addLink(1, 3);
        is("the successor that starts first", planner.startDay(3) + " " + planner.whyNotOn(1, 3), "5 3");
        ProjectPlanner tight = loaded(ONE_UNIT + "task a 2 1;task b 3 1 after a;task c 4 1;");
        is("before reason 4", tight.whyNotOn(0, 4), 3);
    }

    static void p39_reason4() {
        says("Returns the first reason that applies: 1 if the day is less than the release day, 2 if it is less than the "
            + "finish day of a predecessor, 3 if the task would finish after the start day of a successor, 4 if the usage "
            + "of a resource would exceed its capacity on a day on which the task would run; 0 if it can start on this "
            + "day.");
        ProjectPlanner planner = released(loaded("project 0;resource r 9;task a 1 5;task b 1 5;task c 4 5;"), 1, 5);
        is("c", planner.startDay(2), 1);
        is("over on the first day alone", planner.whyNotOn(2, 0), 4);
        is("it does not stand in its own way", planner.whyNotOn(2, 1), 0);
        is("over on the last day alone", planner.whyNotOn(2, 2), 4);
        is("over on a later first day", planner.whyNotOn(2, 5), 4);
        is("behind all", planner.whyNotOn(2, 6), 0);
        planner.setDemand(2, 0, 4);
        is("just the capacity", planner.whyNotOn(2, 2), 0);
        is("far behind", planner.whyNotOn(2, 999), 0);
        for (int resource = 0; resource < 3; resource++) {
            ProjectPlanner three = loaded("project 0;resource p 9;resource q 9;resource r 9;task a 1 9 9 9;task b 1 0 0 0;");
            three.setRelease(0, 3);
            is("no demand", three.whyNotOn(1, 3), 0);
            three.setDemand(1, resource, 1);
            is("resource " + resource, three.whyNotOn(1, 3), 4);
        }
    }

    static void p39_whereItStands() {
        says("Tells why a task cannot start on another day while all other tasks keep their days of the schedule.");
        for (String text : new String[] {LEAST, FIRST, FULL, LINKED, dense(12)}) {
            ProjectPlanner planner = loaded(text);
            for (int task = 0; task < planner.taskCount(); task++) {
                is(task + " of " + text, planner.whyNotOn(task, planner.startDay(task)), 0);
            }
        }
        question(Boundary::eventful, asked -> asked.whyNotOn(4, 12), 0);
        question(Boundary::eventful, asked -> asked.whyNotOn(1, 8), 3);
    }

    static void p39_days0To999() {
        says("`day`: 0 to 999", "Throws `IllegalArgumentException` if day is out of range");
        onlyArguments(0, 999, (planner, day) -> planner.whyNotOn(1, day));
    }

    static void p39_noSuchTask() {
        says("Throws `IndexOutOfBoundsException` if the task does not exist");
        onlyTasks((planner, task) -> planner.whyNotOn(task, 0));
        outOfBounds(planner -> planner.whyNotOn(5, -1));
        outOfBounds(planner -> planner.whyNotOn(-1, 1000));
    }

    // ---- 40 to 44, figures

    static void p40_fromNothingTo3240() {
        says("Returns the work for a resource.",
            "Returns the sum, over all tasks, of the demand multiplied by the duration.");
        is("nothing", loaded(LEAST).work(0), 0);
        is("the most", loaded(FULL).work(2), 3240);
        ProjectPlanner planner = loaded("project 0;resource p 9;resource q 9;task a 30 9 0;task b 1 1 1;task c 2 0 3;");
        is("first resource", planner.work(0), 271);
        is("second resource", planner.work(1), 7);
        question(Boundary::eventful, asked -> asked.work(0), 25);
    }

    static void p40_noSuchResource() {
        says("Throws `IndexOutOfBoundsException` if the resource does not exist");
        onlyResources(ProjectPlanner::work);
    }

    static void p41_roundedUp() {
        says("Returns a lower bound of the makespan.",
            "Returns the greatest one of the project length and, for each resource, its work divided by its capacity, "
            + "rounded up.");
        for (int capacity = 1; capacity <= 9; capacity++) {
            for (int days = 1; days <= 30; days++) {
                // 11 tasks of one day and the capacity's demand, and one unit of work for each of the days.
                ProjectPlanner planner = loaded(bare(12).replace("r 1;", "r " + capacity + ";")
                    .replace(" 1 0;", " 1 " + capacity + ";").replace("task l 1 " + capacity, "task l " + days + " 1"));
                int due = 11 + days / capacity + (days % capacity == 0 ? 0 : 1);
                is("work " + planner.work(0) + " by " + capacity, planner.lowerBound(), Math.max(days, due));
            }
        }
    }

    static void p41_theGreatest() {
        says("Returns the greatest one of the project length and, for each resource, its work divided by its capacity, "
            + "rounded up.");
        is("the least", loaded(LEAST).lowerBound(), 1);
        is("the greatest", latest().lowerBound(), 459);
        String two = "task a 4 1 1 1;task b 4 1 1 1;";
        is("the first resource", loaded("project 0;resource p 1;resource q 2;resource r 2;" + two).lowerBound(), 8);
        is("the second one", loaded("project 0;resource p 2;resource q 1;resource r 2;" + two).lowerBound(), 8);
        is("the third one", loaded("project 0;resource p 2;resource q 2;resource r 1;" + two).lowerBound(), 8);
        is("the length", loaded("project 0;resource p 2;resource q 2;resource r 2;" + two).lowerBound(), 4);
        is("the length, one day more", released(loaded(ONE_UNIT + "task a 2 1;task b 2 1;"), 1, 3).lowerBound(), 5);
        is("the work, one day more", released(loaded(ONE_UNIT + "task a 2 1;task b 2 1;"), 1, 1).lowerBound(), 4);
        question(Boundary::eventful, ProjectPlanner::lowerBound, 14);
    }

    static void p42_oneDivisionOfFloats() {
        says("Returns the utilization of a resource.",
            "Returns its work divided by the product of its capacity and the makespan, both converted to float.");
        is("nothing to do", loaded(LEAST).utilization(0), 0f);
        is("always in use", loaded(FULL).utilization(2), 1f);
        // Divided by 7 and then by 19, or multiplied by the inverse, it would be another float.
        is("5 of 133", released(loaded("project 0;resource r 7;task a 5 1;"), 0, 14).utilization(0), 5f / 133f);
        is("3 of 105", released(loaded("project 0;resource r 5;task a 3 1;"), 0, 18).utilization(0), 3f / 105f);
        is("a third", loaded("project 0;resource r 3;task a 1 1;").utilization(0), 1f / 3f);
        is("by the makespan, not the length", loaded(ONE_UNIT + "task a 2 1;task b 2 1;").utilization(0), 1f);
        is("the most that is divided", latest().utilization(0), 3240f / 4131f);
        question(Boundary::eventful, asked -> asked.utilization(0), 25f / 56f);
    }

    static void p42_noSuchResource() {
        says("Throws `IndexOutOfBoundsException` if the resource does not exist");
        onlyResources(ProjectPlanner::utilization);
    }

    static void p43_oneDivisionOfDoubles() {
        says("Returns the mean slack.",
            "Returns the sum of the slacks of all tasks divided by the number of tasks, both converted to double.");
        is("none", loaded(LEAST).meanSlack(), 0.0);
        is("none of twelve", latest().meanSlack(), 0.0);
        is("halves", loaded(ONE_UNIT + "task a 1 0;task b 4 0;").meanSlack(), 1.5);
        is("thirds", loaded(ONE_UNIT + "task a 5 0;task b 1 0;task c 2 0;").meanSlack(), 7.0 / 3.0);
        is("sevenths", loaded(bare(7).replace("a 1 0", "a 2 0")).meanSlack(), 6.0 / 7.0);
        is("elevenths", released(loaded(bare(11)), 0, 99).meanSlack(), 990.0 / 11.0);
        is("twelfths", longSlack().meanSlack(), 428.0 / 12.0);
        question(Boundary::eventful, ProjectPlanner::meanSlack, 13.0 / 5.0);
    }

    static void p44_always0() {
        says("Checks the internal consistency of the plan.", "Returns the number of links whose second task starts before "
            + "the finish day of the first one in the schedule, plus the number of resources whose peak usage exceeds the "
            + "capacity, plus 1 if the makespan is less than the lower bound; always 0.");
        for (String text : new String[] {LEAST, FIRST, FULL, LINKED, bare(1), bare(12), dense(2), dense(12)}) {
            for (int rule = 0; rule <= 3; rule++) {
                ProjectPlanner planner = loaded(text);
                planner.setRule(rule);
                is(text, planner.inconsistencies(), 0);
                is("released " + text, released(planner, 0, 99).inconsistencies(), 0);
            }
        }
        question(Boundary::eventful, ProjectPlanner::inconsistencies, 0);
    }

    // ---- 45 to 49, what would be

    /** Projects, each with its makespan by the rules 0 to 3: every way in which the least ones can lie. */
    private static final String[][] BY_RULES = {
        {"6 6 6 6", "resource r 1;task a 3 1;task b 3 1;"},
        {"9 9 9 10", "resource r 2;task a 4 1;task b 1 1;task c 2 2;task d 3 2 after b c;"},
        {"5 5 9 5", "resource r 1;task a 1 1;task b 4 1;task c 4 0 after a;"},
        {"8 8 10 9", "resource r 2;task a 1 1;task b 4 1;task c 2 1;task d 4 1;task e 4 1 after c;"},
        {"6 7 6 6", "resource r 1;task a 1 0;task b 2 1;task c 4 1 after a;"},
        {"8 9 8 9", "resource r 2;task a 3 2;task b 2 1;task c 1 1;task d 3 2 after c;"},
        {"4 5 5 4", "resource r 1;task a 1 1;task b 3 1;task c 1 0 after a;"},
        {"6 7 7 7", "resource r 2;task a 2 2;task b 2 1;task c 3 1;task d 2 1 after b;"},
        {"6 5 5 5", "resource r 2;task a 1 2;task b 3 2;task c 2 0 after b;"},
        {"6 5 5 6", "resource r 2;task a 3 1;task b 2 1;task c 4 1;"},
        {"10 7 10 7", "resource r 1;task a 3 1;task b 3 1;task c 4 0 after b;"},
        {"10 9 10 10", "resource r 2;task a 3 2;task b 1 1 after a;task c 2 2;task d 4 1;"},
        {"7 7 6 6", "resource r 2;task a 1 1;task b 3 2 after a;task c 2 1;task d 1 1 after a c;"},
        {"9 9 8 9", "resource r 1;task a 1 0;task b 4 1 after a;task c 4 1;"},
        {"7 7 7 5", "resource r 2;task a 4 1;task b 1 2;task c 2 0 after b;"},
    };

    static void p45_asIfTheRuleWereSet() {
        says("Returns the makespan with another rule.", "`rule`: 0 to 3", "Returns the makespan.");
        for (String[] row : BY_RULES) {
            for (int rule = 0; rule <= 3; rule++) {
                int due = Integer.parseInt(row[0].split(" ")[rule]);
                for (int set = 0; set <= 3; set++) {
                    is(row[1], loaded("project " + set + ";" + row[1]).makespanWith(rule), due);
                }
                is("set, " + row[1], loaded("project " + rule + ";" + row[1]).makespan(), due);
            }
        }
    }

    static void p45_nothingChanges() {
        says("Returns the makespan with another rule.");
        for (int rule = 0; rule <= 3; rule++) {
            int asked = rule;
            question(Boundary::eventful, planner -> planner.makespanWith(asked), 14);
        }
    }

    static void p45_rules0To3() {
        says("Throws `IllegalArgumentException` if rule is out of range");
        onlyArguments(0, 3, ProjectPlanner::makespanWith);
    }

    static void p46_theLowestNumberWinsATie() {
        says("Returns the best rule.", "Returns the rule with the least makespan; the lowest number wins a tie.");
        int[] due = {0, 0, 0, 0, 0, 0, 0, 0, 1, 1, 1, 1, 2, 2, 3};
        for (int index = 0; index < due.length; index++) {
            for (int set = 0; set <= 3; set++) {
                is(BY_RULES[index][1], loaded("project " + set + ";" + BY_RULES[index][1]).bestRule(), due[index]);
            }
        }
        question(Boundary::eventful, ProjectPlanner::bestRule, 0);
    }

    /** Projects, each with its makespan, and with one more unit of p and of q: every way in which these can lie. */
    private static final String[][] BY_UNITS = {
        {"0", "9 6 7", "project 3;resource p 2;resource q 1;task a 2 0 1;task b 4 1 1;task c 3 2 0;"},
        {"0", "9 7 7", "project 2;resource p 3;resource q 3;task a 4 0 3;task b 2 2 1;task c 3 2 2;"},
        {"1", "7 6 4", "project 0;resource p 1;resource q 1;task a 1 1 0;task b 3 1 1;task c 3 0 1;"},
        {"0", "4 3 4", "project 0;resource p 2;resource q 2;task a 1 1 1;task b 2 1 1;task c 3 1 0;"},
        {"0", "8 7 9", "project 3;resource p 3;resource q 2;task a 3 1 1;task b 4 1 2;task c 1 3 1;task d 4 2 0;"},
        {"1", "5 5 4", "project 1;resource p 2;resource q 2;task a 3 0 1;task b 2 2 1;task c 2 2 2;"},
        {"-1", "5 5 5", "project 2;resource p 1;resource q 1;task a 1 1 1;task b 3 1 1;task c 1 1 1;"},
        {"-1", "5 5 6", "project 0;resource p 3;resource q 3;task a 3 1 3;task b 2 2 1;task c 4 1 0;"},
        {"1", "5 6 4", "project 0;resource p 3;resource q 1;task a 1 2 0;task b 1 2 0;task c 4 1 1;task d 1 1 1;"},
        {"-1", "4 5 4", "project 0;resource p 3;resource q 2;task a 1 2 0;task b 2 2 0;task c 4 1 1;"},
        {"-1", "6 8 9", "project 3;resource p 2;resource q 2;task a 3 1 2;task b 1 1 1;task c 2 2 1;task d 4 1 0;"},
        {"-1", "6 7 7", "project 0;resource p 2;resource q 1;task a 2 1 1;task b 2 1 1;task c 2 2 0 after a;task d 3 1 0;"},
    };

    static void p47_oneMoreUnit() {
        says("Returns the makespan if a resource had one more unit on every day.",
            "Returns the makespan with the capacity plus 1.");
        for (String[] row : BY_UNITS) {
            ProjectPlanner planner = loaded(row[2]);
            is(row[2], planner.makespan() + " " + planner.makespanWithMore(0) + " " + planner.makespanWithMore(1), row[1]);
        }
        ProjectPlanner ten = loaded("project 0;resource p 9;resource q 9;resource r 9;task a 2 9 9 9;task b 3 1 1 1;");
        is("10 units of one", ten.makespanWithMore(2), 5);
        ProjectPlanner nine = loaded("project 0;resource r 9;task a 2 9;task b 3 1;task c 4 1;");
        is("10 units, not 11", nine.makespan() + " " + nine.makespanWithMore(0), "6 6");
        is("10 units, not 9", loaded("project 0;resource r 9;task a 2 9;task b 3 1;").makespanWithMore(0), 3);
        is("the demands stay", loaded("project 0;resource r 9;task a 2 9;task b 3 2;").makespanWithMore(0), 5);
    }

    static void p47_nothingChanges() {
        says("Returns the makespan if a resource had one more unit on every day.");
        question(Boundary::eventful, planner -> planner.makespanWithMore(0), 14);
        question(Boundary::eventful, planner -> planner.makespanWithMore(1), 14);
    }

    static void p47_noSuchResource() {
        says("Throws `IndexOutOfBoundsException` if the resource does not exist");
        onlyResources(ProjectPlanner::makespanWithMore);
    }

    static void p48_theLeastOrNone() {
        says("Returns the bottleneck: the resource for which one more unit shortens the makespan most.",
            "Returns the resource with the least result of makespanWithMore(); the lowest number wins a tie; NONE if no "
            + "result is less than the makespan.", "`NONE = -1`: Returned where there is no task, no resource or no cycle.");
        for (String[] row : BY_UNITS) {
            is(row[2], loaded(row[2]).bottleneck(), Integer.parseInt(row[0]));
        }
        is("one resource", loaded(ONE_UNIT + "task a 2 1;task b 2 1;").bottleneck(), 0);
        is("one resource", loaded(LEAST).bottleneck(), ProjectPlanner.NONE);
        is("the third of three", loaded("project 0;resource p 9;resource q 9;resource r 1;task a 2 1 1 1;task b 2 1 1 1;")
            .bottleneck(), 2);
        is("a tie of the second and the third", loaded("project 0;resource p 9;resource q 1;resource r 1;task a 2 0 1 0;"
            + "task b 2 0 1 0;task c 2 0 0 1 after a b;task d 2 0 0 1 after a b;").bottleneck(), 1);
        is("10 units", loaded("project 0;resource p 9;task a 2 9;task b 3 1;").bottleneck(), 0);
        question(Boundary::eventful, ProjectPlanner::bottleneck, -1);
    }

    static void p49_durations1To30() {
        says("Returns the makespan if a task had another duration.", "`duration`: 1 to 30", "Returns the makespan.",
            "Throws `IllegalArgumentException` if duration is out of range");
        onlyArguments(1, 30, (planner, duration) -> planner.makespanWithDuration(4, duration));
        ProjectPlanner planner = loaded(ONE_UNIT + "task a 4 1;task b 2 1;");
        for (int duration = 1; duration <= 30; duration++) {
            is("duration " + duration, planner.makespanWithDuration(0, duration), duration + 2);
        }
        is("the rule follows it", loaded("project 2;resource r 1;task a 2 1;task b 1 1;task c 9 0 after b;")
            .makespanWithDuration(1, 3), 12);
        is("the same duration", new ProjectPlanner().makespanWithDuration(1, 5), 11);
        is("the last of twelve", latest().makespanWithDuration(11, 1), 430);
    }

    static void p49_nothingChanges() {
        says("Returns the makespan if a task had another duration.");
        question(Boundary::eventful, planner -> planner.makespanWithDuration(4, 30), 38);
        question(Boundary::eventful, planner -> planner.makespanWithDuration(2, 1), 13);
    }

    static void p49_noSuchTask() {
        says("Throws `IndexOutOfBoundsException` if the task does not exist");
        onlyTasks((planner, task) -> planner.makespanWithDuration(task, 1));
        outOfBounds(planner -> planner.makespanWithDuration(5, 0));
        outOfBounds(planner -> planner.makespanWithDuration(-1, 31));
    }
}
