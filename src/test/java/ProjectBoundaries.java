/** Promises 7 to 23: the tasks, the resources and the links. */
final class ProjectBoundaries extends Boundary {
    // ---- 7 to 9, how much there is

    static void p07_from1To12() {
        says("Returns the number of tasks.", "Returns 1 to 12.");
        for (int count = 1; count <= 12; count++) {
            is(loaded(bare(count)).taskCount(), count);
        }
        ProjectPlanner planner = loaded(bare(12));
        for (int left = 11; left >= 1; left--) {
            planner.dropTask(left / 2);
            is("dropped", planner.taskCount(), left);
        }
        Check.answer(() -> planner.dropTask(0));
        is("never none", planner.taskCount(), 1);
        question(Boundary::eventful, ProjectPlanner::taskCount, 5);
    }

    static void p08_from1To3() {
        says("Returns the number of resources.", "Returns 1 to 3.");
        is(loaded(LEAST).resourceCount(), 1);
        is(loaded("project 0;resource a 1;resource b 1;task x 1 0 0;").resourceCount(), 2);
        is(loaded(FULL).resourceCount(), 3);
        question(Boundary::eventful, ProjectPlanner::resourceCount, 2);
    }

    static void p09_from0To3() {
        says("Returns the priority rule.", "Returns 0 to 3.");
        for (int rule = 0; rule <= 3; rule++) {
            is(loaded("project " + rule + LEAST.substring(9)).rule(), rule);
        }
        question(Boundary::eventful, ProjectPlanner::rule, 1);
    }

    // ---- 10, taskNameByte

    static void p10_eachLetter() {
        says("Returns a letter of the name of a task.", "`index`: position in the name, from 0",
            "Returns the letter as a byte.");
        ProjectPlanner planner = loaded(ONE_UNIT + "task a 1 0;task z 1 0;task azbycx 1 0;");
        is("a", planner.taskNameByte(0, 0), 97);
        is("z", planner.taskNameByte(1, 0), 122);
        int[] letters = {97, 122, 98, 121, 99, 120};
        for (int index = 0; index < 6; index++) {
            is("letter " + index, planner.taskNameByte(2, index), letters[index]);
        }
        is("the last task", loaded(bare(12)).taskNameByte(11, 0), (int) 'l');
        question(Boundary::eventful, asked -> asked.taskNameByte(4, 4), (int) 't');
    }

    static void p10_noSuchLetter() {
        says("Throws `IndexOutOfBoundsException` if the task does not exist, or its name has no such letter");
        for (int index : new int[] {-1, 3, 4, 5, 6, 7, 8, 31, 32, 64, MIN, MAX}) {
            outOfBounds(planner -> planner.taskNameByte(0, index));
        }
        for (int letters = 1; letters <= 6; letters++) {
            ProjectPlanner planner = loaded(ONE_UNIT + "task " + "abcdef".substring(0, letters) + " 1 0;");
            for (int index = -2; index < 10; index++) {
                int asked = index;
                is(letters + " letters, index " + index, Check.answer(() -> planner.taskNameByte(0, asked)),
                    index < 0 || index >= letters ? "throws IndexOutOfBoundsException" : (Object) (97 + index));
            }
        }
    }

    static void p10_noSuchTask() {
        says("Throws `IndexOutOfBoundsException` if the task does not exist, or its name has no such letter");
        onlyTasks((planner, task) -> planner.taskNameByte(task, 0));
        outOfBounds(planner -> planner.taskNameByte(5, -1));
        outOfBounds(planner -> planner.taskNameByte(-1, 9));
    }

    // ---- 11 and 12, findTask and findResource

    static void p11_everyTask() {
        says("Finds a task by its name.",
            "Returns the number of the task whose name equals the whole input buffer, which stays unchanged.");
        for (int task = 0; task < 12; task++) {
            String name = "" + (char) ('a' + task);
            int due = task;
            question(() -> typed(loaded(bare(12)), name), ProjectPlanner::findTask, due);
        }
        question(() -> typed(fullHistory(), "dig"), ProjectPlanner::findTask, 0);
        is("six letters", typed(loaded(FULL), "abcdef").findTask(), 0);
        is("the number changes", dropped(typed(loaded(bare(12)), "l"), 0).findTask(), 10);
    }

    static void p11_noTask() {
        says("Throws `NoSuchElementException` if no task has this name");
        for (String text : new String[] {"", "d", "di", "digg", "digger", "diggers", "gid", "Dig", "dig ", " dig", "dig\n",
            "dig;", "dig\u0000", "\u0000", "\u0000dig", "crew", "crane", "dig wall", "1", padded("dig", 600), "dih",
            "d\u00e9g", "\u00e4ig"}) {
            noElement(() -> typed(eventful(), text), ProjectPlanner::findTask);
        }
        noElement(() -> dropped(typed(eventful(), "dig"), 0), ProjectPlanner::findTask);
        noElement(() -> dropped(typed(eventful(), "paint"), 4), ProjectPlanner::findTask);
        noElement(() -> typed(loaded(LEAST), "r"), ProjectPlanner::findTask);
        noElement(() -> typed(loaded(LEAST), "a"), ProjectPlanner::findTask);
    }

    static void p12_everyResource() {
        says("Finds a resource by its name.",
            "Returns the number of the resource whose name equals the whole input buffer, which stays unchanged.");
        question(() -> typed(loaded(FULL), "p"), ProjectPlanner::findResource, 0);
        question(() -> typed(loaded(FULL), "q"), ProjectPlanner::findResource, 1);
        question(() -> typed(loaded(FULL), "r"), ProjectPlanner::findResource, 2);
        question(() -> typed(fullHistory(), "crane"), ProjectPlanner::findResource, 1);
        ProjectPlanner planner = loaded("project 0;resource abcdef 1;resource b 1;task b 1 0 0;task abcdef 1 0 0;");
        is("of the same name as a task", typed(planner, "abcdef").findResource(), 0);
        is("of the same name as a resource", typed(planner, "abcdef").findTask(), 1);
        is("of the same name as a task", typed(planner, "b").findResource(), 1);
        is("of the same name as a resource", typed(planner, "b").findTask(), 0);
    }

    static void p12_noResource() {
        says("Throws `NoSuchElementException` if no resource has this name");
        for (String text : new String[] {"", "c", "cre", "crews", "crewcrane", "wercrew", "Crew", "crew ", " crew", "\ncrew",
            "crew\u0000", "\u0000", "dig", "crew crane", "3", padded("crew", 600)}) {
            noElement(() -> typed(eventful(), text), ProjectPlanner::findResource);
        }
        noElement(() -> typed(loaded(LEAST), "crew"), ProjectPlanner::findResource);
        noElement(() -> typed(loaded(LEAST), "x"), ProjectPlanner::findResource);
    }

    private static ProjectPlanner typed(ProjectPlanner planner, String text) {
        Typist.type(planner, text);
        return planner;
    }

    private static ProjectPlanner dropped(ProjectPlanner planner, int task) {
        planner.dropTask(task);
        return planner;
    }

    // ---- 13 to 16, the numbers of a task and of a resource

    static void p13_from1To9() {
        says("Returns the capacity of a resource.", "Returns 1 to 9.");
        ProjectPlanner planner = loaded("project 0;resource a 1;resource b 9;resource c 5;task x 1 0 0 0;");
        is(planner.capacity(0), 1);
        is(planner.capacity(1), 9);
        is(planner.capacity(2), 5);
        question(Boundary::eventful, asked -> asked.capacity(0), 4);
    }

    static void p13_noSuchResource() {
        says("Throws `IndexOutOfBoundsException` if the resource does not exist");
        onlyResources(ProjectPlanner::capacity);
    }

    static void p14_from1To30() {
        says("Returns the duration of a task.", "Returns 1 to 30.");
        ProjectPlanner planner = loaded(ONE_UNIT + "task a 1 0;task b 30 0;task c 17 0;");
        is(Shown.each(planner, planner::duration), "1 30 17");
        question(Boundary::eventful, asked -> asked.duration(4), 3);
    }

    static void p14_noSuchTask() {
        says("Throws `IndexOutOfBoundsException` if the task does not exist");
        onlyTasks(ProjectPlanner::duration);
    }

    static void p15_from0To99() {
        says("Returns the release day of a task.", "Returns 0 to 99.");
        ProjectPlanner planner = loaded(bare(3));
        planner.setRelease(1, 99);
        planner.setRelease(2, 1);
        is(Shown.each(planner, planner::release), "0 99 1");
        question(Boundary::eventful, asked -> asked.release(2), 12);
    }

    static void p15_noSuchTask() {
        says("Throws `IndexOutOfBoundsException` if the task does not exist");
        onlyTasks(ProjectPlanner::release);
    }

    static void p16_from0To9() {
        says("Returns the demand of a task for a resource.", "Returns 0 to 9.");
        ProjectPlanner planner = loaded("project 0;resource a 9;resource b 9;resource c 9;task x 1 0 9 1;task y 1 8 0 9;");
        String demands = "";
        for (int resource = 0; resource < 3; resource++) {
            int asked = resource;
            demands += Shown.each(planner, task -> planner.demand(task, asked)) + "/";
        }
        is(demands, "0 8/9 0/1 9/");
        is("the last of all", loaded(FULL).demand(11, 2), 9);
        question(Boundary::eventful, asked -> asked.demand(1, 1), 1);
    }

    static void p16_noSuchTaskOrResource() {
        says("Throws `IndexOutOfBoundsException` if the task or the resource does not exist");
        onlyTasks((planner, task) -> planner.demand(task, 0));
        onlyResources((planner, resource) -> planner.demand(0, resource));
        outOfBounds(planner -> planner.demand(5, 2));
        outOfBounds(planner -> planner.demand(-1, 3));
        outOfBounds(planner -> planner.demand(1, -1));
    }

    // ---- 17 to 23, the links

    static void p17_fromNoneToAll() {
        says("Returns the number of links.");
        is("none", loaded(LEAST).linkCount(), 0);
        is("none", loaded(bare(12)).linkCount(), 0);
        is("all that there can be", loaded(dense(12)).linkCount(), 66);
        is("one", loaded(dense(2)).linkCount(), 1);
        is("to each task from the one behind it", backward().linkCount(), 11);
        question(Boundary::eventful, ProjectPlanner::linkCount, 6);
    }

    static void p18_fromATaskToAnother() {
        says("Tells whether a link leads from a task to another task.", "Returns whether there is this link.",
            "A link leads from a task to another task: the second task must not start before the finish day of the "
            + "first one.");
        ProjectPlanner planner = loaded(dense(12));
        for (int from = 0; from < 12; from++) {
            for (int to = 0; to < 12; to++) {
                is(from + " to " + to, planner.hasLink(from, to), from < to);
                is("none", loaded(bare(12)).hasLink(from, to), false);
            }
        }
        is("a sequence is no link", loaded(FULL).hasLink(0, 2), false);
        is("the second waits for the first", loaded(FULL).startDay(1), loaded(FULL).finishDay(0));
        question(Boundary::eventful, asked -> asked.hasLink(3, 2), true);
    }

    static void p18_noSuchTask() {
        says("Throws `IndexOutOfBoundsException` if one of the tasks does not exist");
        onlyTasks((planner, task) -> planner.hasLink(task, 0));
        onlyTasks((planner, task) -> planner.hasLink(0, task));
        onlyTasks((planner, task) -> planner.hasLink(task, task));
    }

    static void p19_bySequencesOfLinks() {
        says("Tells whether a task is before another task.", "Returns whether from is before to.",
            "A task is before another task if a sequence of links leads from the first one to the second one.");
        ProjectPlanner planner = loaded(FULL);
        for (int from = 0; from < 12; from++) {
            for (int to = 0; to < 12; to++) {
                is(from + " before " + to, planner.isBefore(from, to), from < to);
            }
        }
        planner.removeLink(5, 6);
        is("a gap", planner.isBefore(0, 6), false);
        is("up to the gap", planner.isBefore(0, 5), true);
        is("from the gap", planner.isBefore(6, 11), true);
        is("backward", backward().isBefore(11, 0), true);
        is("backward", backward().isBefore(0, 11), false);
        question(Boundary::eventful, asked -> asked.isBefore(0, 2), true);
    }

    static void p19_notBeforeItself() {
        says("A task is before another task if a sequence of links leads from the first one to the second one.");
        for (int task = 0; task < 12; task++) {
            is(loaded(dense(12)).isBefore(task, task), false);
        }
        is("one task", loaded(LEAST).isBefore(0, 0), false);
    }

    static void p19_noSuchTask() {
        says("Throws `IndexOutOfBoundsException` if one of the tasks does not exist");
        onlyTasks((planner, task) -> planner.isBefore(task, 0));
        onlyTasks((planner, task) -> planner.isBefore(0, task));
        onlyTasks((planner, task) -> planner.isBefore(task, task));
    }

    static void p20_fromNoneToAllOthers() {
        says("Counts the predecessors of a task.", "Returns the number of its predecessors.",
            "The predecessors of a task are the tasks from which links lead to it, and its successors are the tasks to "
            + "which links lead from it.");
        ProjectPlanner planner = loaded(dense(12));
        is(Shown.each(planner, planner::predecessorCount), "0 1 2 3 4 5 6 7 8 9 10 11");
        ProjectPlanner row = loaded(FULL);
        is("only by a link", Shown.each(row, row::predecessorCount), "0 1 1 1 1 1 1 1 1 1 1 1");
        is("one task", loaded(LEAST).predecessorCount(0), 0);
        question(Boundary::eventful, asked -> asked.predecessorCount(2), 2);
    }

    static void p20_noSuchTask() {
        says("Throws `IndexOutOfBoundsException` if the task does not exist");
        onlyTasks(ProjectPlanner::predecessorCount);
    }

    static void p21_fromNoneToAllOthers() {
        says("Counts the tasks that a task is before.", "Returns the number of these tasks.");
        ProjectPlanner planner = loaded(dense(12));
        is(Shown.each(planner, planner::followerCount), "11 10 9 8 7 6 5 4 3 2 1 0");
        ProjectPlanner row = loaded(FULL);
        is("by sequences too", Shown.each(row, row::followerCount), "11 10 9 8 7 6 5 4 3 2 1 0");
        is("one task", loaded(LEAST).followerCount(0), 0);
        is("backward", Shown.each(backward(), backward()::followerCount), "0 1 2 3 4 5 6 7 8 9 10 11");
        ProjectPlanner fork = loaded(ONE_UNIT + "task a 1 0;task b 1 0 after a;task c 1 0 after a;task d 1 0 after b c;");
        is("each once", fork.followerCount(0), 3);
        question(Boundary::eventful, asked -> asked.followerCount(3), 2);
    }

    static void p21_noSuchTask() {
        says("Throws `IndexOutOfBoundsException` if the task does not exist");
        onlyTasks(ProjectPlanner::followerCount);
    }

    static void p22_theLowestThatCanStand() {
        says("Returns a task of the topological order.", "The order is built step by step: each step appends the "
            + "lowest-numbered task that is not in the order yet and whose predecessors all are in the order.",
            "`position`: position in the order, from 0", "Returns the number of the task.");
        ProjectPlanner none = loaded(bare(12));
        is("no links", Shown.each(none, none::topologicalOrder), "0 1 2 3 4 5 6 7 8 9 10 11");
        ProjectPlanner planner = loaded(bare(12));
        planner.addLink(11, 0);
        is("the lowest waits for the last", Shown.each(planner, planner::topologicalOrder), "1 2 3 4 5 6 7 8 9 10 11 0");
        planner.addLink(5, 1);
        is("back to a lower one at once", Shown.each(planner, planner::topologicalOrder), "2 3 4 5 1 6 7 8 9 10 11 0");
        planner.removeLink(11, 0);
        planner.addLink(5, 0);
        is("two at once", Shown.each(planner, planner::topologicalOrder), "2 3 4 5 0 1 6 7 8 9 10 11");
        ProjectPlanner backward = backward();
        is("backward", Shown.each(backward, backward::topologicalOrder), "11 10 9 8 7 6 5 4 3 2 1 0");
        is("one task", loaded(LEAST).topologicalOrder(0), 0);
        question(Boundary::eventful, asked -> asked.topologicalOrder(4), 4);
        question(Boundary::eventful, asked -> asked.topologicalOrder(2), 3);
    }

    static void p22_noSuchPosition() {
        says("Throws `IndexOutOfBoundsException` if position is negative or not less than the number of tasks");
        onlyTasks(ProjectPlanner::topologicalOrder);
    }

    static void p23_theShortestCycle() {
        says("Returns the length of the shortest cycle that a new link would close.",
            "Returns the least number of links in a cycle that contains the new link, counting the new link itself; 1 if "
            + "both are the same task; NONE if the new link would close no cycle.");
        ProjectPlanner row = loaded(FULL);
        for (int from = 0; from < 12; from++) {
            for (int to = 0; to < 12; to++) {
                is(from + " to " + to, row.closedCycleLength(from, to), from >= to ? from - to + 1 : -1);
            }
        }
        row.addLink(0, 11);
        is("a short way beside the long one", row.closedCycleLength(11, 0), 2);
        is("the rest as before", row.closedCycleLength(10, 0), 11);
        row.addLink(2, 9);
        is("a way cut short", row.closedCycleLength(10, 0), 5);
        for (int to = 0; to < 12; to++) {
            is("from the task with the number 0", backward().closedCycleLength(0, to), to + 1);
            is("to the task with the number 0", backward().closedCycleLength(to, 0), to == 0 ? 1 : -1);
        }
        ProjectPlanner full = loaded(dense(12));
        is("every link is there", full.closedCycleLength(11, 0), 2);
        question(Boundary::eventful, planner -> planner.closedCycleLength(4, 0), 3);
    }

    static void p23_theSameTask() {
        says("Returns the least number of links in a cycle that contains the new link, counting the new link itself; 1 if "
            + "both are the same task; NONE if the new link would close no cycle.");
        for (int task = 0; task < 12; task++) {
            is(loaded(bare(12)).closedCycleLength(task, task), 1);
            is(loaded(dense(12)).closedCycleLength(task, task), 1);
        }
        is("one task", loaded(LEAST).closedCycleLength(0, 0), 1);
    }

    static void p23_noCycle() {
        says("Returns the least number of links in a cycle that contains the new link, counting the new link itself; 1 if "
            + "both are the same task; NONE if the new link would close no cycle.");
        is("no links", loaded(bare(2)).closedCycleLength(0, 1), -1);
        is("the link is there", loaded(dense(2)).closedCycleLength(0, 1), -1);
        is("a sequence leads the same way", loaded(dense(12)).closedCycleLength(0, 11), -1);
        is("beside one another", new ProjectPlanner().closedCycleLength(1, 3), -1);
        is("beside one another", new ProjectPlanner().closedCycleLength(3, 1), -1);
    }

    static void p23_noSuchTask() {
        says("Throws `IndexOutOfBoundsException` if one of the tasks does not exist");
        onlyTasks((planner, task) -> planner.closedCycleLength(task, 0));
        onlyTasks((planner, task) -> planner.closedCycleLength(0, task));
        onlyTasks((planner, task) -> planner.closedCycleLength(task, task));
    }
}
