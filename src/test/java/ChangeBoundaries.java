/** Promises 50 to 63: the changes, scripts, undo, the saved states and the output text. */
final class ChangeBoundaries extends Boundary {
    private static final String START = Shown.project(new ProjectPlanner());

    /** What the change answers and does, that it can be undone, and that it leaves alone what is none of its own. */
    private static void changes(Use change, Object due, String project) {
        changesThePlan(change, due, project);
        leaves("the error", change, Shown::errors);
        leaves("the buffer", change, Shown::buffer);
    }

    private static void changesThePlan(Use change, Object due, String project) {
        ProjectPlanner planner = new ProjectPlanner();
        is("the answer", Check.answer(() -> change.on(planner)), due);
        is("the project behind it", Shown.project(planner), project);
        is("one change to undo", planner.undo(), 0);
        is("the project undone", Shown.project(planner), START);
        leaves("the output", change, Shown::output);
        leaves("slot 0", change, asked -> Shown.restored(asked, 0));
        leaves("slot 1", change, asked -> Shown.restored(asked, 1));
        leavesTheHistory(change);
    }

    private static void leavesTheHistory(Use change) {
        ProjectPlanner planner = eventful();
        if (Check.answer(() -> change.on(planner)) instanceof Integer) {
            planner.undo();
        }
        is("the changes before it stay", Shown.undone(planner, 4), Shown.undone(eventful(), 4));
    }

    private static void isNoChange(Use call) {
        ProjectPlanner planner = eventful();
        Check.answer(() -> call.on(planner));
        is("the changes to undo", planner.undo() + Shown.project(planner), 2 + Shown.project(undone(eventful(), 1)));
    }

    private static ProjectPlanner undone(ProjectPlanner planner, int times) {
        for (int time = 0; time < times; time++) {
            planner.undo();
        }
        return planner;
    }

    // ---- 50 to 52, the numbers of a task

    static void p50_durations1To30() {
        says("Sets the duration of a task.", "`duration`: 1 to 30", "Returns the previous duration.",
            "Throws `IllegalArgumentException` if duration is out of range");
        onlyArguments(1, 30, (planner, duration) -> planner.setDuration(4, duration));
        ProjectPlanner planner = loaded(ONE_UNIT + "task a 30 0;task b 30 0;");
        int previous = 30;
        for (int duration = 1; duration <= 30; duration++) {
            is(planner.setDuration(1, duration), previous);
            is("set", planner.duration(1) + " " + planner.duration(0), duration + " 30");
            previous = duration;
        }
        changes(asked -> asked.setDuration(0, 1), 3, START.replace("dig 3", "dig 1"));
        changes(asked -> asked.setDuration(4, 30), 3, START.replace("paint 3", "paint 30"));
    }

    /** By itself, since leaves(..) compares planners that have set durations before. */
    static void p50_leavesTheRest() {
        says("Sets the duration of a task.");
        for (Shown.Part part : new Shown.Part[] {Shown::output, Shown::errors, Shown::buffer,
            planner -> Shown.restored(planner, 1)}) {
            ProjectPlanner planner = eventful();
            planner.setDuration(0, 9);
            is(part.of(planner), part.of(eventful()));
        }
    }

    static void p50_noSuchTask() {
        says("Throws `IndexOutOfBoundsException` if the task does not exist");
        onlyTasks((planner, task) -> planner.setDuration(task, 1));
        outOfBounds(planner -> planner.setDuration(5, 0));
        outOfBounds(planner -> planner.setDuration(-1, 31));
    }

    static void p51_demands0ToTheCapacity() {
        says("Sets the demand of a task for a resource.", "`demand`: 0 to the capacity of the resource",
            "Returns the previous demand.", "Throws `IllegalArgumentException` if demand is out of range");
        onlyArguments(0, 4, (planner, demand) -> planner.setDemand(3, 0, demand));
        onlyArguments(0, 1, (planner, demand) -> planner.setDemand(3, 1, demand));
        for (int capacity = 1; capacity <= 9; capacity++) {
            int units = capacity;
            ProjectPlanner planner = loaded("project 0;resource q 9;resource r " + capacity + ";task a 1 9 0;");
            is("none", planner.setDemand(0, 1, 0), 0);
            is("the capacity", planner.setDemand(0, 1, capacity), 0);
            is("one more", Check.answer(() -> planner.setDemand(0, 1, units + 1)), "throws IllegalArgumentException");
            is("the previous one", planner.setDemand(0, 1, 0), capacity);
            is("the other resource", planner.demand(0, 0), 9);
        }
        changes(planner -> planner.setDemand(0, 0, 3), 2, START.replace("dig 3 0 2", "dig 3 0 3"));
        changes(planner -> planner.setDemand(4, 1, 1), 0, START.replace("paint 3 0 1 0", "paint 3 0 1 1"));
    }

    static void p51_theCapacityOfNow() {
        says("`demand`: 0 to the capacity of the resource");
        ProjectPlanner planner = new ProjectPlanner();
        planner.setCapacity(1, 9);
        is("a greater one", planner.setDemand(0, 1, 9), 0);
        planner.setDemand(0, 1, 1);
        planner.setCapacity(1, 1);
        is("a smaller one", Check.answer(() -> planner.setDemand(0, 1, 2)), "throws IllegalArgumentException");
    }

    static void p51_noSuchTaskOrResource() {
        says("Throws `IndexOutOfBoundsException` if the task or the resource does not exist");
        onlyTasks((planner, task) -> planner.setDemand(task, 0, 0));
        onlyResources((planner, resource) -> planner.setDemand(0, resource, 0));
        outOfBounds(planner -> planner.setDemand(5, 0, -1));
        outOfBounds(planner -> planner.setDemand(0, 2, -1));
        outOfBounds(planner -> planner.setDemand(0, -1, 99));
        outOfBounds(planner -> planner.setDemand(-1, 2, 99));
    }

    static void p52_days0To99() {
        says("Sets the release day of a task.", "`day`: 0 to 99", "Returns the previous release day.",
            "Throws `IllegalArgumentException` if day is out of range");
        onlyArguments(0, 99, (planner, day) -> planner.setRelease(4, day));
        ProjectPlanner planner = loaded(bare(2));
        int previous = 0;
        for (int day = 0; day <= 99; day++) {
            is(planner.setRelease(1, day), previous);
            is("set", planner.release(1) + " " + planner.release(0), day + " 0");
            previous = day;
        }
        changes(asked -> asked.setRelease(0, 99), 0, START.replace("dig 3 0", "dig 3 99"));
        changes(asked -> asked.setRelease(4, 1), 0, START.replace("paint 3 0", "paint 3 1"));
    }

    static void p52_noSuchTask() {
        says("Throws `IndexOutOfBoundsException` if the task does not exist");
        onlyTasks((planner, task) -> planner.setRelease(task, 1));
        outOfBounds(planner -> planner.setRelease(5, 100));
        outOfBounds(planner -> planner.setRelease(-1, -1));
    }

    // ---- 53 and 54, the links

    static void p53_fromNoneToAll() {
        says("Adds a link.", "Returns the number of links afterwards.");
        ProjectPlanner planner = loaded(bare(12));
        int count = 0;
        for (int from = 0; from < 12; from++) {
            for (int to = from + 1; to < 12; to++) {
                count++;
                is(from + " to " + to, planner.addLink(from, to) + " " + planner.linkCount(), count + " " + count);
            }
        }
        is("all", Shown.project(planner), Shown.project(loaded(dense(12))));
        ProjectPlanner backward = loaded(bare(12));
        for (int to = 0; to < 11; to++) {
            is("backward", backward.addLink(to + 1, to), to + 1);
        }
        changes(asked -> asked.addLink(2, 3), 6, START.replace("after 0/paint", "after 0 after 2/paint"));
        changes(asked -> asked.addLink(0, 4), 6, START.replace("0 after 1 after 3", "0 after 0 after 1 after 3"));
    }

    static void p53_noRoomLeft() {
        says("Throws `IllegalStateException` if there is this link, or it would close a cycle (this includes a link from a "
            + "task to itself)");
        ProjectPlanner planner = loaded(dense(12));
        for (int from = 0; from < 12; from++) {
            for (int to = 0; to < 12; to++) {
                int first = from;
                int second = to;
                is(from + " to " + to, Check.answer(() -> planner.addLink(first, second)), "throws IllegalStateException");
            }
        }
        is("nothing changes", Shown.project(planner), Shown.project(loaded(dense(12))));
    }

    static void p53_aLinkThatIsThere() {
        says("Throws `IllegalStateException` if there is this link, or it would close a cycle (this includes a link from a "
            + "task to itself)");
        badState(planner -> planner.addLink(0, 1));
        badState(planner -> planner.addLink(3, 4));
        badState(() -> loaded(dense(2)), planner -> planner.addLink(0, 1));
    }

    static void p53_aCycle() {
        says("Throws `IllegalStateException` if there is this link, or it would close a cycle (this includes a link from a "
            + "task to itself)", "Links never form a cycle.");
        badState(() -> loaded(dense(2)), planner -> planner.addLink(1, 0));
        badState(planner -> planner.addLink(1, 0));
        badState(planner -> planner.addLink(4, 0));
        badState(planner -> planner.addLink(2, 0));
        for (int length = 2; length <= 12; length++) {
            int last = length - 1;
            is("of " + length + " links", Check.answer(() -> loaded(FULL).addLink(last, 0)), "throws IllegalStateException");
            ProjectPlanner backward = loaded(bare(12));
            for (int to = 0; to < last; to++) {
                backward.addLink(to + 1, to);
            }
            is("of " + length + " links backward", Check.answer(() -> backward.addLink(0, last)),
                "throws IllegalStateException");
        }
    }

    static void p53_aTaskToItself() {
        says("Throws `IllegalStateException` if there is this link, or it would close a cycle (this includes a link from a "
            + "task to itself)");
        for (int task = 0; task < 5; task++) {
            int both = task;
            badState(planner -> planner.addLink(both, both));
        }
        badState(() -> loaded(LEAST), planner -> planner.addLink(0, 0));
        badState(() -> loaded(bare(12)), planner -> planner.addLink(11, 11));
    }

    static void p53_noSuchTask() {
        says("Throws `IndexOutOfBoundsException` if one of the tasks does not exist");
        onlyTasks((planner, task) -> planner.addLink(task, 0));
        onlyTasks((planner, task) -> planner.addLink(0, task));
        onlyTasks((planner, task) -> planner.addLink(task, task));
    }

    static void p54_fromAllToNone() {
        says("Removes a link.", "Returns the number of links afterwards.");
        ProjectPlanner planner = loaded(dense(12));
        int count = 66;
        for (int from = 0; from < 12; from++) {
            for (int to = 11; to > from; to--) {
                count--;
                is(from + " to " + to, planner.removeLink(from, to) + " " + planner.linkCount(), count + " " + count);
            }
        }
        is("none", Shown.project(planner), Shown.project(loaded(bare(12))));
        changes(asked -> asked.removeLink(0, 1), 4, START.replace("2 1 after 0", "2 1"));
        changes(asked -> asked.removeLink(3, 4), 4, START.replace(" after 1 after 3", " after 1"));
    }

    static void p54_noSuchLink() {
        says("Throws `IllegalStateException` if there is no such link");
        badState(planner -> planner.removeLink(1, 0));
        badState(planner -> planner.removeLink(0, 4));
        badState(planner -> planner.removeLink(0, 0));
        badState(planner -> planner.removeLink(1, 3));
        badState(() -> loaded(LEAST), planner -> planner.removeLink(0, 0));
        badState(() -> {
            ProjectPlanner planner = eventful();
            planner.removeLink(3, 2);
            return planner;
        }, planner -> planner.removeLink(3, 2));
    }

    static void p54_noSuchTask() {
        says("Throws `IndexOutOfBoundsException` if one of the tasks does not exist");
        onlyTasks((planner, task) -> planner.removeLink(task, 0));
        onlyTasks((planner, task) -> planner.removeLink(0, task));
        onlyTasks((planner, task) -> planner.removeLink(task, task));
    }

    // ---- 55 and 56, capacity and rule

    static void p55_capacities1To9() {
        says("Sets the capacity of a resource.", "`capacity`: 1 to 9", "Returns the previous capacity.",
            "Throws `IllegalArgumentException` if capacity is out of range");
        onlyArguments(1, 9, (planner, capacity) -> planner.setCapacity(1, capacity));
        ProjectPlanner planner = loaded("project 0;resource p 5;resource q 5;task a 1 0 0;");
        int previous = 5;
        for (int capacity = 1; capacity <= 9; capacity++) {
            is(planner.setCapacity(1, capacity), previous);
            is("set", planner.capacity(1) + " " + planner.capacity(0), capacity + " 5");
            previous = capacity;
        }
        changes(asked -> asked.setCapacity(0, 9), 3, START.replace("/3 1 /", "/9 1 /"));
        changes(asked -> asked.setCapacity(1, 2), 1, START.replace("/3 1 /", "/3 2 /"));
    }

    static void p55_aGreaterDemand() {
        says("Throws `IllegalStateException` if a task has a greater demand for the resource");
        changes(planner -> planner.setCapacity(0, 2), 3, START.replace("/3 1 /", "/2 1 /"));
        badState(planner -> planner.setCapacity(0, 1));
        for (int task = 0; task < 12; task++) {
            ProjectPlanner planner = loaded(bare(12));
            planner.setCapacity(0, 9);
            planner.setDemand(task, 0, 5);
            is("one less", Check.answer(() -> planner.setCapacity(0, 4)), "throws IllegalStateException");
            is("nothing changes", planner.capacity(0), 9);
            is("just the demand", planner.setCapacity(0, 5), 9);
        }
        ProjectPlanner other = loaded("project 0;resource p 9;resource q 9;resource r 9;task a 1 9 1 9;");
        is("another resource's demand", other.setCapacity(1, 1), 9);
        ProjectPlanner dropped = loaded("project 0;resource p 9;task a 1 1;task b 1 9;");
        dropped.dropTask(1);
        is("a dropped task's demand", dropped.setCapacity(0, 1), 9);
    }

    static void p55_theFirstThatIsListed() {
        says("Throws `IndexOutOfBoundsException` if the resource does not exist",
            "If several exceptions apply, the one that is listed first is thrown.");
        onlyResources((planner, resource) -> planner.setCapacity(resource, 9));
        outOfBounds(planner -> planner.setCapacity(2, 0));
        outOfBounds(planner -> planner.setCapacity(-1, 10));
        badArgument(planner -> planner.setCapacity(0, 0));
        badArgument(planner -> planner.setCapacity(0, -1));
    }

    static void p56_rules0To3() {
        says("Sets the priority rule.", "`rule`: 0 to 3", "Returns the previous rule.",
            "Throws `IllegalArgumentException` if rule is out of range");
        onlyArguments(0, 3, ProjectPlanner::setRule);
        ProjectPlanner planner = new ProjectPlanner();
        int previous = 1;
        for (int rule : new int[] {0, 3, 2, 1, 1}) {
            is(planner.setRule(rule), previous);
            is("set", planner.rule(), rule);
            previous = rule;
        }
        changes(asked -> asked.setRule(3), 1, "3" + START.substring(1));
        changes(asked -> asked.setRule(0), 1, "0" + START.substring(1));
    }

    // ---- 57, dropTask

    static void p57_eachOfTwelve() {
        says("Drops a task together with its links.", "The numbers of the tasks behind it decrease by 1.",
            "Returns the number of tasks afterwards.");
        String[] texts = new String[12];
        for (int task = 0; task < 12; task++) {
            texts[task] = "task " + (char) ('a' + task) + " " + (task + 1) + " " + task % 7;
        }
        for (int dropped = 0; dropped < 12; dropped++) {
            StringBuilder left = new StringBuilder("project 0;resource r 9;");
            for (int task = 0; task < 12; task++) {
                left.append(task == dropped ? "" : texts[task] + ";");
            }
            ProjectPlanner planner = loaded("project 0;resource r 9;" + String.join(";", texts) + ";");
            ProjectPlanner due = loaded(left.toString());
            for (int task = 0; task < 12; task++) {
                planner.setRelease(task, 9 + task);
                if (task != dropped) {
                    due.setRelease(task > dropped ? task - 1 : task, 9 + task);
                }
            }
            for (int[] link : new int[][] {{0, 11}, {3, 4}, {4, 5}, {7, 5}, {11, 1}, {2, 9}, {10, 9}, {8, 6}, {6, 2}}) {
                planner.addLink(link[0], link[1]);
                if (link[0] != dropped && link[1] != dropped) {
                    due.addLink(link[0] > dropped ? link[0] - 1 : link[0], link[1] > dropped ? link[1] - 1 : link[1]);
                }
            }
            is(planner.dropTask(dropped), 11);
            is("without task " + dropped, Shown.project(planner), Shown.project(due));
            is("without task " + dropped, Shown.schedule(planner), Shown.schedule(due));
        }
    }

    static void p57_linksAreNotJoined() {
        says("Drops a task together with its links.");
        ProjectPlanner planner = loaded(FULL);
        planner.dropTask(5);
        is("links", planner.linkCount(), 9);
        is("from one side to the other", planner.hasLink(4, 5) || planner.isBefore(0, 10), false);
        changes(asked -> asked.dropTask(4), 4, START.substring(0, START.indexOf("/paint")));
    }

    static void p57_downToOne() {
        says("Returns the number of tasks afterwards.", "Throws `IllegalStateException` if there is only one task");
        for (int place = 0; place < 2; place++) {
            ProjectPlanner planner = loaded(dense(12));
            for (int left = 11; left >= 1; left--) {
                is(planner.dropTask(place == 0 ? 0 : left), left);
            }
            is("the only one", Shown.project(planner), "0/1 /" + (place == 0 ? "l" : "a") + " 1 0 0");
            is(Check.answer(() -> planner.dropTask(0)), "throws IllegalStateException");
        }
        badState(() -> loaded(LEAST), planner -> planner.dropTask(0));
        badState(() -> {
            ProjectPlanner planner = eventful();
            for (int left = 4; left >= 1; left--) {
                planner.dropTask(left);
            }
            return planner;
        }, planner -> planner.dropTask(0));
    }

    static void p57_noSuchTask() {
        says("Throws `IndexOutOfBoundsException` if the task does not exist");
        onlyTasksToDrop(5, Boundary::eventful);
        onlyTasksToDrop(12, () -> loaded(FULL));
        onlyTasksToDrop(2, () -> loaded(bare(2)));
        outOfBounds(() -> loaded(LEAST), planner -> planner.dropTask(1));
        outOfBounds(() -> loaded(LEAST), planner -> planner.dropTask(-1));
        outOfBounds(planner -> planner.dropTask(5));
        outOfBounds(planner -> planner.dropTask(-1));
    }

    private static void onlyTasksToDrop(int count, Maker maker) {
        for (int task : new int[] {-1, count, 32, MIN, MAX}) {
            outOfBounds(maker, planner -> planner.dropTask(task));
        }
        for (int task = 0; task < count; task++) {
            is("task " + task, maker.make().dropTask(task), count - 1);
        }
    }

    // ---- 58, runScript

    static void p58_eachCommand() {
        says("Parses the input buffer as a script and empties the buffer, also if the text has an error.",
            "Returns the number of executed commands.",
            "script = { command \";\" }", "command = \"duration\" name duration | \"demand\" name name demand | \"release\" "
            + "name day | \"link\" name name | \"unlink\" name name | \"capacity\" name capacity | \"rule\" rule | \"drop\" "
            + "name", "The commands call setDuration, setDemand (first the task, then the resource), setRelease, addLink, "
            + "removeLink, setCapacity, setRule and dropTask.");
        script("duration paint 9;", 1, START.replace("paint 3", "paint 9"));
        script("demand paint crane 1;", 1, START.replace("paint 3 0 1 0", "paint 3 0 1 1"));
        script("release paint 9;", 1, START.replace("paint 3 0", "paint 3 9"));
        script("link roof pipe;", 1, START.replace("after 0/paint", "after 0 after 2/paint"));
        script("unlink wall paint;", 1, START.replace(" after 1 after 3", " after 3"));
        script("capacity crane 9;", 1, START.replace("/3 1 /", "/3 9 /"));
        script("rule 3;", 1, "3" + START.substring(1));
        script("drop paint;", 1, START.substring(0, START.indexOf("/paint")));
    }

    private static void script(String text, int executed, String project) {
        changesThePlan(planner -> Typist.script(planner, text), executed, project);
        ProjectPlanner planner = new ProjectPlanner();
        Typist.script(planner, text);
        is("the buffer after " + text, Shown.length(planner), 0);
        is("the error of " + text, Shown.errors(planner), "error 0 at -1");
    }

    static void p58_from0To30Commands() {
        says("Returns the number of executed commands.", "code 5: the word \"resource\" of a 4th resource, the word "
            + "\"task\" of a 13th task, or the first word of a 31st command.");
        for (int count = 0; count <= 30; count++) {
            script("rule 0;".repeat(count), count, (count == 0 ? "1" : "0") + START.substring(1));
        }
        scriptError(5, "rule 0;".repeat(30) + "|rule 0;");
        script("", 0, START);
        script(" \n", 0, START);
        script(" ".repeat(600), 0, START);
        script(padded("rule 2;", 600), 1, "2" + START.substring(1));
        scriptError(1, "|;");
        scriptError(1, "rule 0;|;");
    }

    static void p58_theGrammar() {
        says("script = { command \";\" }", "command = \"duration\" name duration | \"demand\" name name demand | \"release\" "
            + "name day | \"link\" name name | \"unlink\" name name | \"capacity\" name capacity | \"rule\" rule | \"drop\" "
            + "name");
        scriptError(1, "|dig;");
        scriptError(1, "|task dig 1;");
        scriptError(1, "duration|;");
        scriptError(1, "duration |1;");
        scriptError(1, "duration dig|;");
        scriptError(1, "duration dig |wall 1;");
        scriptError(1, "duration dig 1|");
        scriptError(1, "duration dig 1 |1;");
        scriptError(1, "demand dig|;");
        scriptError(1, "demand dig |1;");
        scriptError(1, "demand dig crew|;");
        scriptError(3, "demand |crew dig 1;");
        scriptError(1, "release dig|;");
        scriptError(1, "link|;");
        scriptError(1, "link dig|;");
        scriptError(1, "link dig |1;");
        scriptError(1, "link dig wall |1;");
        scriptError(1, "unlink dig|;");
        scriptError(1, "unlink dig wall |roof;");
        scriptError(1, "capacity |1;");
        scriptError(1, "capacity crew|;");
        scriptError(1, "capacity crew |crane 1;");
        scriptError(1, "rule|;");
        scriptError(1, "rule |dig;");
        scriptError(1, "rule 1 |1;");
        scriptError(1, "drop|;");
        scriptError(1, "drop |1;");
        scriptError(1, "drop dig |wall;");
        scriptError(1, "rule |0001;");
        scriptError(1, "rule 0;|rules 0;");
        scriptError(1, "drop |abcdefghi;");
        scriptError(3, "drop |abcdefgh;");
    }

    static void p58_anErrorChangesNothingElse() {
        says("Throws `IllegalArgumentException` if the text has an error; in this case only the buffer, the error code and "
            + "the error position change");
        scriptError(1, "rule 0;drop dig;duration wall 30;capacity crew 9;|x");
        scriptError(3, "drop dig;drop wall;drop |none;");
        for (Shown.Part part : Shown.allButTexts()) {
            ProjectPlanner planner = fullHistory();
            is(errorOf(planner, "rule 0;drop dig", ProjectPlanner::runScript), failed(1, 15));
            is(part.of(planner), part.of(fullHistory()));
        }
    }

    static void p58_namesBeforeTheScript() {
        says("The parser compares the names of a script with the tasks that exist before the script is executed.");
        script("drop paint;duration paint 9;", 1, START.substring(0, START.indexOf("/paint")));
        script("drop paint;link dig paint;rule 0;", 1, START.substring(0, START.indexOf("/paint")));
        ProjectPlanner planner = new ProjectPlanner();
        planner.dropTask(0);
        is("dropped before", errorOf(planner, "duration dig 1;", ProjectPlanner::runScript), failed(3, 9));
        planner.undo();
        is("undone", errorOf(planner, "duration dig 1;", ProjectPlanner::runScript), worked(1));
        Typist.load(planner, LEAST);
        is("loaded", errorOf(planner, "duration dig 1;", ProjectPlanner::runScript), failed(3, 9));
        is("loaded", errorOf(planner, "duration x 1;", ProjectPlanner::runScript), worked(1));
    }

    static void p58_theTaskThatHasTheName() {
        says("When a command is executed, it applies to the task that has the name at this time.");
        ProjectPlanner planner = new ProjectPlanner();
        is(Typist.script(planner, "drop dig;drop roof;duration paint 9;release pipe 8;link paint pipe;"), 4);
        is(Shown.project(planner), "1/3 1 /wall 5 0 2 1/pipe 4 8 1 0/paint 9 0 1 0 after 0 after 1");
        is(Typist.script(planner, "unlink pipe paint;link paint pipe;demand pipe crane 1;"), 3);
        is(Shown.project(planner), "1/3 1 /wall 5 0 2 1/pipe 4 8 1 1 after 2/paint 9 0 1 0 after 0");
    }

    static void p58_stopsAtWhatIsNotPossible() {
        says("Execution stops at the first command that is not possible: there is no longer a task with the name, or the "
            + "method would throw an exception.", "This command and all later ones are not executed.");
        for (String command : new String[] {"duration wall 0", "duration wall 31", "duration wall 999", "demand wall crew 4",
            "demand wall crane 2", "demand wall crew 999", "release wall 100", "release wall 999", "link wall wall",
            "link wall roof", "link roof wall", "link paint dig", "unlink roof wall", "unlink dig paint", "unlink dig dig",
            "capacity crew 0", "capacity crew 1", "capacity crew 10", "capacity crane 999", "rule 4", "rule 999"}) {
            script(command + ";rule 2;", 0, START);
            script("rule 3;" + command + ";rule 2;", 1, "3" + START.substring(1));
        }
        String left = START.substring(0, START.indexOf("/paint"));
        for (String command : new String[] {"duration paint 1", "demand paint crew 1", "release paint 1", "link dig paint",
            "link paint dig", "unlink wall paint", "unlink paint wall", "drop paint"}) {
            script("drop paint;" + command + ";rule 2;", 1, left);
        }
        script("drop dig;drop wall;drop roof;drop pipe;drop paint;rule 2;", 4, "1/3 1 /paint 3 0 1 0");
    }

    static void p58_theEdgesOfEachCommand() {
        says("The commands call setDuration, setDemand (first the task, then the resource), setRelease, addLink, "
            + "removeLink, setCapacity, setRule and dropTask.");
        script("duration dig 1;duration wall 30;", 2, START.replace("dig 3", "dig 1").replace("wall 5", "wall 30"));
        script("demand dig crew 0;demand wall crew 3;demand dig crane 1;", 3,
            START.replace("dig 3 0 2 0", "dig 3 0 0 1").replace("wall 5 0 2", "wall 5 0 3"));
        script("release dig 99;release dig 0;release wall 99;", 3, START.replace("wall 5 0", "wall 5 99"));
        script("capacity crew 2;capacity crane 9;", 2, START.replace("/3 1 /", "/2 9 /"));
        script("rule 0;rule 1;rule 2;rule 3;", 4, "3" + START.substring(1));
        script("capacity crane 2;demand dig crane 2;", 2, START.replace("/3 1 /", "/3 2 /").replace("dig 3 0 2 0",
            "dig 3 0 2 2"));
        script("demand dig crane 2;capacity crane 2;", 0, START);
        script("unlink dig wall;link wall dig;", 2, START.replace("dig 3 0 2 0", "dig 3 0 2 0 after 1").replace("2 1 after 0",
            "2 1"));
        script("link wall dig;unlink dig wall;", 0, START);
    }

    static void p58_aSingleChange() {
        says("A valid script is executed and counts as a single change, even if no command was executed.");
        for (String text : new String[] {"", "rule 9;", "rule 0;", "rule 0;".repeat(30), "drop dig;drop wall;drop dig;"}) {
            ProjectPlanner planner = eventful();
            Typist.script(planner, text);
            is("one more than three", planner.undo(), 3);
            is("undone", Shown.project(planner), Shown.project(eventful()));
        }
        ProjectPlanner planner = new ProjectPlanner();
        for (int time = 0; time < 7; time++) {
            Typist.script(planner, "");
        }
        is("six of seven", planner.undo(), 5);
    }

    static void p58_emptiesTheBuffer() {
        says("Parses the input buffer as a script and empties the buffer, also if the text has an error.");
        for (String text : new String[] {"", "rule 1;", "rule", "!", " ".repeat(600), "rule 9;"}) {
            ProjectPlanner planner = new ProjectPlanner();
            Typist.type(planner, text);
            Check.answer(planner::runScript);
            is(text, Shown.length(planner), 0);
            is("again after " + text, Check.answer(planner::runScript), 0);
        }
    }

    // ---- 59, undo

    static void p59_uptoSix() {
        says("Undoes the latest change that has not been undone.", "Returns the number of changes that can still be undone.",
            "The latest 6 changes can be undone.");
        for (int changes = 0; changes <= 20; changes++) {
            ProjectPlanner planner = new ProjectPlanner();
            for (int change = 1; change <= changes; change++) {
                planner.setRelease(1, change);
            }
            int most = Math.min(changes, 6);
            for (int undone = 1; undone <= most; undone++) {
                is("of " + changes, planner.undo() + " " + planner.release(1), most - undone + " " + (changes - undone));
            }
            is("none of " + changes + " is left", Check.answer(planner::undo) + " " + planner.release(1),
                "throws IllegalStateException " + (changes - most));
        }
    }

    static void p59_noChange() {
        says("Throws `IllegalStateException` if there is none");
        badState(ProjectPlanner::new, ProjectPlanner::undo);
        badState(() -> undone(eventful(), 3), ProjectPlanner::undo);
        badState(() -> undone(fullHistory(), 6), ProjectPlanner::undo);
        badState(() -> {
            ProjectPlanner planner = fullHistory();
            planner.restore(1);
            return planner;
        }, ProjectPlanner::undo);
    }

    /** The history is compared with a list, through every mixture of changes and undos. */
    static void p59_aroundAndAround() {
        says("Undoes the latest change that has not been undone.", "The latest 6 changes can be undone.");
        for (int seed = 0; seed < 2000; seed++) {
            ProjectPlanner planner = new ProjectPlanner();
            int[] days = new int[60];
            int count = 0;
            int day = 0;
            for (int step = 0; step < 40; step++) {
                if ((seed * 31 + step * step * 7 + seed / (step + 1)) % 5 < 3) {
                    days[count % 60] = day;
                    count++;
                    planner.setRelease(0, step + 1);
                    day = step + 1;
                    if (count > 6) {
                        System.arraycopy(days, 1, days, 0, 6);
                        count = 6;
                    }
                } else if (count == 0) {
                    is("none", Check.answer(planner::undo), "throws IllegalStateException");
                } else {
                    count--;
                    day = days[count];
                    is(planner.undo(), count);
                }
                is("seed " + seed + " step " + step, planner.release(0), day);
            }
        }
    }

    static void p59_everyChange() {
        says("The methods in the section \"changes\" are changes if they do not throw an exception, even if they change "
            + "nothing.");
        Use[] same = {planner -> planner.setDuration(0, 3), planner -> planner.setDemand(0, 0, 2),
            planner -> planner.setRelease(0, 0), planner -> planner.setCapacity(0, 4), planner -> planner.setRule(1),
            planner -> Typist.script(planner, ""), planner -> Typist.script(planner, "rule 1;")};
        for (Use change : same) {
            ProjectPlanner planner = eventful();
            change.on(planner);
            is("changed nothing", Shown.project(planner), Shown.project(eventful()));
            is("counts all the same", planner.undo(), 3);
            is("the one before is next", planner.undo() + Shown.project(planner),
                2 + Shown.project(undone(eventful(), 1)));
        }
        Use[] real = {planner -> planner.addLink(2, 4), planner -> planner.removeLink(0, 1), planner -> planner.dropTask(1),
            planner -> planner.setDuration(4, 1), planner -> planner.setDemand(4, 1, 1), planner -> planner.setRelease(4, 1),
            planner -> planner.setCapacity(1, 9), planner -> planner.setRule(0),
            planner -> Typist.script(planner, "drop dig;rule 0;")};
        for (Use change : real) {
            ProjectPlanner planner = eventful();
            change.on(planner);
            is("changed something", Shown.project(planner).equals(Shown.project(eventful())), false);
            is("counts", planner.undo(), 3);
            is("undone", Shown.project(planner), Shown.project(eventful()));
            is("the one before is next", planner.undo() + Shown.project(planner),
                2 + Shown.project(undone(eventful(), 1)));
        }
    }

    static void p59_whatIsNoChange() {
        says("A method that throws an exception changes nothing unless its description says otherwise.",
            "The methods in the section \"changes\" are changes if they do not throw an exception, even if they change "
            + "nothing.");
        Use[] calls = {planner -> planner.setDuration(0, 0), planner -> planner.setDemand(0, 0, 9),
            planner -> planner.setRelease(0, 100), planner -> planner.addLink(0, 0), planner -> planner.removeLink(0, 0),
            planner -> planner.setCapacity(0, 0), planner -> planner.setRule(4), planner -> planner.dropTask(9),
            planner -> Typist.script(planner, "x"), planner -> Typist.load(planner, "x"), planner -> planner.save(0),
            ProjectPlanner::writeSchedule, ProjectPlanner::bestRule, planner -> planner.makespanWithDuration(0, 9),
            planner -> planner.append(1, 2, 3, 4, 5), planner -> planner.truncate(0), ProjectPlanner::findTask};
        for (Use call : calls) {
            isNoChange(call);
        }
    }

    static void p59_whatItLeaves() {
        says("Undoing, saving and restoring affect the whole state except the input buffer, the error code, the error "
            + "position, the output text and the saved states.");
        for (int times = 1; times <= 7; times++) {
            int count = times;
            Use undo = planner -> Shown.undone(planner, count);
            leaves("the output", undo, Shown::output);
            leaves("the error", undo, Shown::errors);
            leaves("slot 0", undo, planner -> Shown.restored(planner, 0));
            leaves("slot 1", undo, planner -> Shown.restored(planner, 1));
            leaves("the buffer", undo, Shown::buffer);
        }
    }

    static void p59_theWholeState() {
        says("Undoing, saving and restoring affect the whole state except the input buffer, the error code, the error "
            + "position, the output text and the saved states.");
        for (Shown.Part part : new Shown.Part[] {Shown::project, Shown::paths, Shown::cycles, Shown::dates, Shown::schedule,
            Shown::days, Shown::wishes}) {
            ProjectPlanner planner = loaded(FULL);
            Typist.script(planner, "drop abcdef;drop l;unlink b c;link l b;release c 9;duration d 1;capacity r 9;rule 0;");
            planner.undo();
            is(part.of(planner), part.of(loaded(FULL)));
            planner.setDuration(0, 1);
            planner.setDemand(11, 2, 0);
            planner.setRelease(5, 50);
            planner.removeLink(10, 11);
            planner.addLink(0, 11);
            planner.dropTask(6);
            undone(planner, 6);
            is(part.of(planner), part.of(loaded(FULL)));
        }
    }

    // ---- 60 and 61, save and restore

    static void p60_slots0And1() {
        says("Saves the state and replaces what was saved in the slot before.", "`slot`: 0 or 1",
            "Returns the number of tasks.", "Throws `IndexOutOfBoundsException` if the slot does not exist");
        for (int slot : new int[] {-1, 2, 3, 32, MIN, MAX}) {
            outOfBounds(planner -> planner.save(slot));
        }
        for (int slot = 0; slot < 2; slot++) {
            is("five tasks", eventful().save(slot), 5);
            is("one task", loaded(LEAST).save(slot), 1);
            is("twelve tasks", loaded(FULL).save(slot), 12);
        }
    }

    static void p60_replacesItsOwnSlotOnly() {
        says("Saves the state and replaces what was saved in the slot before.");
        for (int slot = 0; slot < 2; slot++) {
            ProjectPlanner planner = new ProjectPlanner();
            planner.setRule(0);
            planner.save(1 - slot);
            planner.setRule(2);
            planner.save(slot);
            planner.setRule(3);
            planner.save(slot);
            planner.setRule(1);
            is("the other slot", planner.restore(1 - slot) + " " + planner.rule(), "5 0");
            is("the latest", planner.restore(slot) + " " + planner.rule(), "5 3");
        }
    }

    static void p60_changesNothingElse() {
        says("Undoing, saving and restoring affect the whole state except the input buffer, the error code, the error "
            + "position, the output text and the saved states.");
        for (Shown.Part part : Shown.all()) {
            for (int slot = 0; slot < 2; slot++) {
                ProjectPlanner planner = eventful();
                planner.save(slot);
                String shown = part.of(planner);
                if (!shown.startsWith("restored")) {
                    is(shown, part.of(eventful()));
                }
            }
        }
        ProjectPlanner planner = fullHistory();
        planner.save(0);
        is("the other slot", Shown.restored(planner, 1), "restored 5/" + START);
    }

    static void p60_laterChangesDoNotReachIt() {
        says("Saves the state and replaces what was saved in the slot before.");
        ProjectPlanner planner = loaded(FULL);
        planner.save(0);
        planner.setDuration(11, 1);
        planner.setDemand(11, 2, 0);
        planner.setRelease(11, 9);
        planner.setRule(0);
        planner.removeLink(0, 1);
        planner.dropTask(3);
        Typist.script(planner, "drop l;");
        planner.restore(0);
        is("as it was", Shown.project(planner), Shown.project(loaded(FULL)));
        planner.setDuration(11, 1);
        planner.dropTask(0);
        planner.undo();
        planner.restore(0);
        is("as it was, again", Shown.project(planner), Shown.project(loaded(FULL)));
    }

    static void p61_slots0And1() {
        says("Restores a saved state, which stays saved, and clears the undo history.", "`slot`: 0 or 1",
            "Returns the number of tasks of the restored state.",
            "Throws `IndexOutOfBoundsException` if the slot does not exist");
        for (int slot : new int[] {-1, 2, 3, 32, MIN, MAX}) {
            outOfBounds(planner -> planner.restore(slot));
        }
        for (int slot = 0; slot < 2; slot++) {
            ProjectPlanner planner = loaded(bare(12));
            planner.save(slot);
            planner.dropTask(0);
            is("the tasks of the restored state", planner.restore(slot), 12);
            is("stays saved", planner.restore(slot), 12);
        }
    }

    static void p61_nothingSaved() {
        says("Throws `IllegalStateException` if nothing is saved in the slot");
        badState(planner -> planner.restore(0));
        badState(ProjectPlanner::new, planner -> planner.restore(1));
        badState(() -> {
            ProjectPlanner planner = new ProjectPlanner();
            planner.save(0);
            planner.setRule(3);
            return planner;
        }, planner -> planner.restore(1));
        badState(() -> {
            ProjectPlanner planner = eventful();
            Typist.load(planner, FIRST);
            return planner;
        }, planner -> planner.restore(1));
    }

    static void p61_clearsTheHistory() {
        says("Restores a saved state, which stays saved, and clears the undo history.");
        for (int slot = 0; slot < 2; slot++) {
            ProjectPlanner planner = fullHistory();
            planner.restore(slot);
            is(Check.answer(planner::undo), "throws IllegalStateException");
            String restored = Shown.project(planner);
            planner.setRule(3);
            is("only what came behind", planner.undo() + Shown.project(planner), 0 + restored);
        }
    }

    static void p61_whatItLeaves() {
        says("Undoing, saving and restoring affect the whole state except the input buffer, the error code, the error "
            + "position, the output text and the saved states.");
        for (int slot = 0; slot < 2; slot++) {
            int asked = slot;
            Use restore = planner -> planner.restore(asked);
            leaves("the output", restore, Shown::output);
            leaves("the error", restore, Shown::errors);
            leaves("slot 0", restore, planner -> Shown.restored(planner, 0));
            leaves("slot 1", restore, planner -> Shown.restored(planner, 1));
            leaves("the buffer", restore, Shown::buffer);
        }
    }

    static void p61_theWholeState() {
        says("Undoing, saving and restoring affect the whole state except the input buffer, the error code, the error "
            + "position, the output text and the saved states.");
        for (Shown.Part part : new Shown.Part[] {Shown::project, Shown::paths, Shown::cycles, Shown::dates, Shown::schedule,
            Shown::days, Shown::wishes}) {
            ProjectPlanner planner = eventful();
            planner.restore(1);
            is(part.of(planner), part.of(new ProjectPlanner()));
        }
    }

    // ---- 62 and 63, the output text

    static void p62_theForm() {
        says("Writes the schedule to the output text, which is replaced.", "Each task contributes its name, a colon (byte "
            + "58), its start day, a hyphen (byte 45) and its finish day, both numbers in decimal, followed by an asterisk "
            + "(byte 42) if the task is critical.", "Returns the length of the output text in bytes.");
        is("the shortest", Typist.output(loaded(LEAST)), "x:0-1*");
        is("its length", loaded(LEAST).writeSchedule(), 6);
        is("not critical", Typist.output(loaded(ONE_UNIT + "task a 2 0;task b 1 0;")), "a:0-2* b:0-1");
        ProjectPlanner late = loaded(ONE_UNIT + "task abcdef 10 0;task b 1 0;");
        late.setRelease(0, 9);
        late.setRelease(1, 99);
        is("one to three digits", Typist.output(late), "abcdef:9-19 b:99-100*");
        ProjectPlanner full = loaded(FULL);
        full.setRelease(0, 99);
        is("the last of twelve", Typist.output(full).endsWith(" k:399-429* l:429-459*"), true);
        is("the length of twelve", full.writeSchedule(), 14 + 11 * 10 + 11);
        is("eventful", Typist.output(eventful()), "dig:0-3 wall:3-8 pipe:3-7 paint:8-11 roof:12-14*");
    }

    static void p62_theOrder() {
        says("The tasks appear by ascending start day, tasks with equal start days by ascending number, with one space "
            + "(byte 32) between them.");
        is("all on one day", Typist.output(loaded(bare(12))), "a:0-1* b:0-1* c:0-1* d:0-1* e:0-1* f:0-1* g:0-1* h:0-1* "
            + "i:0-1* j:0-1* k:0-1* l:0-1*");
        ProjectPlanner planner = loaded(bare(12));
        for (int task = 0; task < 12; task++) {
            planner.setRelease(task, (11 - task) / 2);
        }
        is("two by two, backward", Typist.output(planner), "k:0-1 l:0-1 i:1-2 j:1-2 g:2-3 h:2-3 e:3-4 f:3-4 c:4-5 d:4-5 "
            + "a:5-6* b:5-6*");
        is("not by the order of the steps", Typist.output(loaded("project 2;resource r 2;task a 1 1;task b 9 1;")),
            "a:0-1 b:0-9*");
        is("not by the name", Typist.output(loaded(ONE_UNIT + "task z 1 0;task y 1 0;")), "z:0-1* y:0-1*");
        is("by number, not as text", Typist.output(loaded(ONE_UNIT + "task a 9 1;task b 2 1;task c 1 1;")),
            "a:0-9* b:9-11 c:11-12");
    }

    static void p62_isReplaced() {
        says("Writes the schedule to the output text, which is replaced.");
        ProjectPlanner planner = loaded(FULL);
        int length = planner.writeSchedule();
        for (int left = 11; left >= 1; left--) {
            planner.dropTask(0);
        }
        is("the long text stays until then", planner.outputByte(length - 1), 42);
        is("the short one", planner.writeSchedule(), 7);
        is("the short one", Shown.output(planner), "output l:0-30*throws IndexOutOfBoundsException");
    }

    static void p62_changesNothingElse() {
        says("Writes the schedule to the output text, which is replaced.");
        for (Shown.Part part : Shown.all()) {
            ProjectPlanner planner = fullHistory();
            planner.writeSchedule();
            String shown = part.of(planner);
            if (!shown.startsWith("output")) {
                is(shown, part.of(fullHistory()));
            }
        }
    }

    static void p63_everyByte() {
        says("Returns a byte of the output text.", "`index`: position in the output text, from 0", "Returns the byte.");
        ProjectPlanner planner = new ProjectPlanner();
        String due = "dig:0-3* wall:3-8* pipe:3-7 roof:8-10 paint:8-11*";
        is(planner.writeSchedule(), due.length());
        for (int index = 0; index < due.length(); index++) {
            is("byte " + index, planner.outputByte(index), (int) due.charAt(index));
        }
        question(Boundary::eventful, asked -> asked.outputByte(0), 100);
        question(Boundary::eventful, asked -> asked.outputByte(7), 32);
    }

    static void p63_outOfRange() {
        says("Throws `IndexOutOfBoundsException` if index is out of range or nothing was written yet");
        int length = eventful().writeSchedule();
        for (int index : new int[] {-1, length, length + 1, 600, MIN, MAX}) {
            outOfBounds(planner -> planner.outputByte(index));
        }
        is("the last one", eventful().outputByte(length - 1), 42);
    }

    static void p63_nothingWritten() {
        says("Throws `IndexOutOfBoundsException` if index is out of range or nothing was written yet");
        for (int index : new int[] {-1, 0, 1, 5, MIN, MAX}) {
            outOfBounds(ProjectPlanner::new, planner -> planner.outputByte(index));
        }
        outOfBounds(() -> {
            ProjectPlanner planner = new ProjectPlanner();
            planner.save(0);
            planner.setRule(0);
            planner.undo();
            planner.restore(0);
            return planner;
        }, planner -> planner.outputByte(0));
    }
}
