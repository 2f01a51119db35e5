import java.util.NoSuchElementException;

/** At least one test for each promise of the document, by its number. Dates were worked out by hand. */
public final class PromiseTests {
    private static final Check check = new Check("PromiseTests");
    private static final String FIRST = "project 1;resource crew 3;resource crane 1;task dig 3 2 0;"
        + "task wall 5 2 1 after dig;task roof 2 1 1 after wall;task pipe 4 1 0 after dig;"
        + "task paint 3 1 0 after wall pipe;";
    private static final String ONE_OF_TWO = "project 0;resource r 1;task a 2 1;task b 3 1;";
    private static final int[] WILD = {-1, Integer.MIN_VALUE, Integer.MAX_VALUE, 12, 32, 64};

    public static void main(String[] args) {
        newObject();
        input();
        load();
        errors();
        scriptErrors();
        tasksAndResources();
        links();
        dates();
        schedule();
        rules();
        days();
        figures();
        whatWouldBe();
        simpleChanges();
        linkChanges();
        capacityChanges();
        dropping();
        scripts();
        undo();
        saving();
        output();
        fullProject();
        wildArguments();
        check.finish();
    }

    // 1
    private static void newObject() {
        ProjectPlanner fresh = new ProjectPlanner();
        same("1 the first project", fresh, Typist.loaded(FIRST));
        check.equal("1 names", Shown.names(fresh), "dig wall roof pipe paint");
        check.equal("1 rule", fresh.rule(), 1);
        check.equal("1 buffer is empty", fresh.truncate(0), 0);
        check.badArgument("1 buffer is empty", () -> fresh.truncate(1));
        check.badState("1 nothing to undo", fresh::undo);
        check.badState("1 nothing saved", () -> fresh.restore(0));
        check.badState("1 nothing saved", () -> fresh.restore(1));
        check.equal("5 no text yet", fresh.errorCode(), 0);
        check.equal("6 no text yet", fresh.errorPosition(), -1);
        check.outOfBounds("63 nothing written", () -> fresh.outputByte(0));
    }

    // 2, 3
    private static void input() {
        ProjectPlanner planner = new ProjectPlanner();
        check.equal("2 the length", planner.append(0x77616C6C, 0x80FF00, -1, 0, 1), 20);
        check.equal("2 the length", planner.append(0, 0, 0, 0, 0), 40);
        check.equal("3 the length", planner.truncate(4), 4);
        check.equal("2 the first byte comes first", planner.findTask(), 1);
        check.equal("3 the length", planner.truncate(4), 4);
        check.badArgument("3 longer", () -> planner.truncate(5));
        check.badArgument("3 negative", () -> planner.truncate(-1));
        check.equal("3 to nothing", planner.truncate(0), 0);
        int length = 0;
        for (int call = 0; call < 30; call++) {
            length = planner.append(call, 0, 0, 0, 0);
        }
        check.equal("2 full", length, 600);
        check.badState("2 too full", () -> planner.append(0, 0, 0, 0, 0));
        check.equal("3 nearly full", planner.truncate(581), 581);
        check.badState("2 too full by one", () -> planner.append(0, 0, 0, 0, 0));
        check.badArgument("2 the failed call changed nothing", () -> planner.truncate(582));
        check.equal("3 just room", planner.truncate(580), 580);
        check.equal("2 just full", planner.append(0, 0, 0, 0, 0), 600);
        ProjectPlanner text = new ProjectPlanner();
        text.append(0x70726F6A, 0x65637420, 0x303B7265, 0x736F7572, 0x63652072);
        text.append(0x20313B74, 0x61736B20, 0x78203720, 0x303B2020, 0x0A0A2020);
        check.equal("2 every argument in its place", text.load(), 1);
        check.equal("2 every argument in its place", text.duration(0), 7);
    }

    // 4
    private static void load() {
        ProjectPlanner planner = new ProjectPlanner();
        planner.save(0);
        planner.setRule(2);
        check.equal("4 tasks", Typist.load(planner, ONE_OF_TWO), 2);
        check.equal("4 empties", planner.truncate(0), 0);
        check.badArgument("4 empties", () -> planner.truncate(1));
        check.equal("4 replaces", Shown.names(planner), "a b");
        check.equal("4 replaces the rule", planner.rule(), 0);
        check.equal("4 replaces the resources", planner.resourceCount(), 1);
        check.equal("4 replaces the links", planner.linkCount(), 0);
        check.badState("4 discards what was saved", () -> planner.restore(0));
        check.badState("4 clears the history", planner::undo);

        planner.setRelease(1, 7);
        planner.save(1);
        planner.writeSchedule();
        check.badArgument("4 an error", () -> Typist.load(planner, "project 0;resource r 1;task a 31 1;"));
        check.equal("5 code", planner.errorCode(), 2);
        check.badArgument("4 empties also then", () -> planner.truncate(1));
        check.equal("4 changes nothing else", planner.release(1), 7);
        check.equal("4 changes nothing else", planner.outputByte(0), (int) 'a');
        check.equal("4 keeps the history", planner.undo(), 0);
        check.equal("4 keeps what is saved", planner.restore(1), 2);
        check.equal("4 keeps what is saved", planner.release(1), 7);
        check.equal("4 releases are 0", Typist.load(planner, ONE_OF_TWO) + planner.release(1), 2);
        check.equal("5 no error", planner.errorCode(), 0);
        check.equal("6 no error", planner.errorPosition(), -1);
        check.equal("4 grammar words as names", Shown.names(Typist.loaded("project 3;resource task 1;resource after 2;"
            + "task after 1 0 0;task task 1 0 0 after after;task link 1 1 2 after after task;")), "after task link");
        check.equal("4 no separators needed", Shown.names(Typist.loaded("project1;resource r1;task a1 1;")), "a");
        check.equal("4 line feeds and leading zeros", Shown.names(Typist.loaded(
            "\n project\n001 ;\n\nresource r 009;task a 030 9 ; ")), "a");
        check.equal("4 twelve tasks", Typist.loaded("project 0;resource r 1;" + tasks(12)).taskCount(), 12);
        check.equal("4 a long text", Typist.loaded(padded(FIRST, 600)).taskCount(), 5);
        check.equal("4 a resource and a task of one name",
            Typist.loaded("project 0;resource a 1;task a 1 1;").taskCount(), 1);
    }

    private static String tasks(int count) {
        StringBuilder text = new StringBuilder();
        for (int task = 0; task < count; task++) {
            text.append("task ").append((char) ('a' + task)).append(" 1 0;");
        }
        return text.toString();
    }

    private static String padded(String text, int length) {
        return text + " ".repeat(length - text.length());
    }

    // 4, 5, 6: each code, at each place where it can stand. The bar marks the error position.
    private static void errors() {
        setupError(1, "|");
        setupError(1, "  \n|");
        setupError(1, "|task");
        setupError(1, "|;");
        setupError(1, "|Project 1;");
        setupError(1, "|projects 1;");
        setupError(1, "|projectss 1;");
        setupError(1, "project |;");
        setupError(1, "project |x;");
        setupError(1, "project |0001;");
        setupError(1, "project |1000");
        setupError(2, "project |4;");
        setupError(2, "project |999;");
        setupError(1, "project 1 |1;");
        setupError(1, "project 1|-");
        setupError(1, "project 1; |");
        setupError(1, "project 1;|task a 1;");
        setupError(1, "project 1;resource |1");
        setupError(1, "project 1;resource |;");
        setupError(3, "project 1;resource |abcdefg 1;");
        setupError(3, "project 1;resource |abcdefgh 1;");
        setupError(1, "project 1;resource |abcdefghi 1;");
        setupError(3, "project 1;resource |resource 1;");
        setupError(2, "project 1;resource abcdef |0;");
        setupError(2, "project 1;resource r |10;");
        setupError(1, "project 1;resource r |r;");
        setupError(1, "project 1;resource r 1|");
        setupError(3, "project 1;resource r 1;resource |r 1;");
        setupError(1, "project 1;resource r 1;|");
        setupError(1, "project 1;resource r 1;|;");
        setupError(1, "project 1;resource r 1;|rest r 1;");
        setupError(5, "project 1;resource a 1;resource b 1;resource c 1;|resource d 1;");
        setupError(1, "project 1;resource a 1;resource b 1;resource c 1;|resources d 1;");
        String start = "project 1;resource r 3;resource q 1;";
        setupError(1, start + "task |1");
        setupError(3, start + "task |abcdefg 1 1 1;");
        setupError(3, start + "task a 1 1 1;task |a 1 1 1;");
        setupError(2, start + "task a |0 1 1;");
        setupError(2, start + "task a |31 1 1;");
        setupError(2, start + "task a 1 |4 1;");
        setupError(2, start + "task a 1 3 |2;");
        setupError(1, start + "task a |;");
        setupError(1, start + "task a 1|;");
        setupError(1, start + "task a 1 1|;");
        setupError(1, start + "task a 1 1 |after b;");
        setupError(1, start + "task a 1 1 1 |1;");
        setupError(1, start + "task a 1 1 1 |999;");
        setupError(1, start + "task a 1 1 1 |then b;");
        setupError(1, start + "task a 1 1 1 |");
        setupError(1, start + "task a 1 1 1 after|;");
        setupError(1, start + "task a 1 1 1 after |1;");
        setupError(3, start + "task a 1 1 1 after |a;");
        setupError(3, start + "task a 1 1 1 after |r;");
        setupError(3, start + "task a 1 1 1;task b 1 1 1 after |c;");
        setupError(3, start + "task a 1 1 1;task b 1 1 1 after a |abcdefgh;");
        setupError(1, start + "task a 1 1 1;task b 1 1 1 after a |abcdefghi;");
        setupError(4, start + "task a 1 1 1;task b 1 1 1 after a |a;");
        setupError(4, start + "task a 1 1 1;task b 1 1 1;task c 1 1 1 after a b |a;");
        setupError(1, start + "task a 1 1 1;task b 1 1 1 after a |1;");
        setupError(1, start + "task a 1 1 1;|resource p 1;");
        setupError(1, start + "task a 1 1 1;|;");
        setupError(1, start + "task a 1 1 1;|\t");
        setupError(1, start + "task a 1 1 1;|\u00ff");
        setupError(1, start + "task a 1 1 1;|\u00e1");
        setupError(1, start + "task a 1 1 1;|\u0000");
        setupError(5, "project 1;resource r 1;" + tasks(12) + "|task a 1 0;");
        setupError(1, "project 1;resource r 1;" + tasks(12) + "|resource a 1 0;");
        setupError(2, "project |4;project project");
    }

    private static void setupError(int code, String marked) {
        ProjectPlanner planner = new ProjectPlanner();
        String text = marked.replace("|", "");
        check.badArgument("4 load of " + marked, () -> Typist.load(planner, text));
        check.equal("5 code of " + marked, planner.errorCode(), code);
        check.equal("6 position of " + marked, planner.errorPosition(), marked.indexOf('|'));
        same("4 state after " + marked, planner, new ProjectPlanner());
    }

    // 58, 5, 6
    private static void scriptErrors() {
        scriptError(1, "|dig;");
        scriptError(1, "|;");
        scriptError(1, "|1;");
        scriptError(1, "rule 1|");
        scriptError(1, "rule 1 |rule 1;");
        scriptError(1, "rule |rule;");
        scriptError(1, "rule |1000;");
        scriptError(1, "rule |;");
        scriptError(1, "duration |1;");
        scriptError(3, "duration |crew 1;");
        scriptError(3, "duration |diggers 1;");
        scriptError(1, "duration dig|;");
        scriptError(1, "duration dig |dig;");
        scriptError(3, "demand |crew dig 1;");
        scriptError(3, "demand dig |dig 1;");
        scriptError(1, "demand dig |1;");
        scriptError(1, "demand dig crew|;");
        scriptError(3, "release |none 1;");
        scriptError(3, "link dig |crane;");
        scriptError(1, "link dig|;");
        scriptError(1, "link dig wall |roof;");
        scriptError(3, "unlink |di wall;");
        scriptError(3, "unlink dig |digg;");
        scriptError(3, "capacity |dig 1;");
        scriptError(1, "capacity crew|");
        scriptError(3, "drop |crew;");
        scriptError(1, "drop dig |1;");
        scriptError(1, "drop dig;|Drop wall;");
        scriptError(5, "rule 1;".repeat(30) + "|rule 1;");
        scriptError(5, "rule 1;".repeat(30) + "|drop x;");
        scriptError(1, "rule 1;".repeat(30) + "|dig 1;");
        scriptError(1, "rule 1;".repeat(30) + "|;");
    }

    private static void scriptError(int code, String marked) {
        ProjectPlanner planner = new ProjectPlanner();
        String text = marked.replace("|", "");
        planner.save(1);
        planner.setRule(1);
        check.badArgument("58 script " + marked, () -> Typist.script(planner, text));
        check.equal("5 code of " + marked, planner.errorCode(), code);
        check.equal("6 position of " + marked, planner.errorPosition(), marked.indexOf('|'));
        check.badArgument("58 empties the buffer after " + marked, () -> planner.truncate(1));
        same("58 state after " + marked, planner, new ProjectPlanner());
        check.equal("58 history after " + marked, planner.undo(), 0);
        check.equal("58 saved after " + marked, planner.restore(1), 5);
    }

    // 7 to 16
    private static void tasksAndResources() {
        ProjectPlanner planner = Typist.loaded("project 2;resource abcdef 9;resource x 1;resource yy 4;"
            + "task yy 30 9 0 4;task zzzzzz 1 0 1 3 after yy;");
        check.equal("7 tasks", planner.taskCount(), 2);
        check.equal("8 resources", planner.resourceCount(), 3);
        check.equal("8 resources", new ProjectPlanner().resourceCount(), 2);
        check.equal("9 rule", planner.rule(), 2);
        check.equal("10 first letter", planner.taskNameByte(0, 0), 121);
        check.equal("10 last letter", planner.taskNameByte(1, 5), 122);
        check.equal("10 each letter", Typist.taskName(new ProjectPlanner(), 4), "paint");
        check.outOfBounds("10 behind the name", () -> planner.taskNameByte(0, 2));
        check.outOfBounds("10 behind the name", () -> planner.taskNameByte(1, 6));
        check.outOfBounds("10 before the name", () -> planner.taskNameByte(0, -1));
        check.outOfBounds("10 far off", () -> planner.taskNameByte(0, Integer.MIN_VALUE));
        check.outOfBounds("10 far off", () -> planner.taskNameByte(0, 8));
        check.outOfBounds("10 no task", () -> planner.taskNameByte(2, 0));
        check.outOfBounds("10 no task", () -> planner.taskNameByte(-1, 0));
        find(planner, "yy", 0, 2);
        find(planner, "zzzzzz", 1, -1);
        find(planner, "abcdef", -1, 0);
        find(planner, "x", -1, 1);
        find(planner, "", -1, -1);
        find(planner, "y", -1, -1);
        find(planner, "yyy", -1, -1);
        find(planner, "yy ", -1, -1);
        find(planner, " yy", -1, -1);
        find(planner, "yy\u0000", -1, -1);
        find(planner, "\u0000yy", -1, -1);
        find(planner, "YY", -1, -1);
        find(planner, "zzzzzzz", -1, -1);
        find(planner, "x;xxxxxxxxxxxxxxxxxxxxxxxx", -1, -1);
        check.equal("13 capacity", planner.capacity(0), 9);
        check.equal("13 capacity", planner.capacity(2), 4);
        check.equal("14 duration", planner.duration(0), 30);
        check.equal("14 duration", planner.duration(1), 1);
        planner.setRelease(1, 99);
        check.equal("15 release", planner.release(0), 0);
        check.equal("15 release", planner.release(1), 99);
        check.equal("16 demand", planner.demand(0, 0), 9);
        check.equal("16 demand", planner.demand(0, 2), 4);
        check.equal("16 demand", planner.demand(1, 1), 1);
        check.outOfBounds("13 no resource", () -> planner.capacity(3));
        check.outOfBounds("13 no resource", () -> new ProjectPlanner().capacity(2));
        check.outOfBounds("14 no task", () -> planner.duration(2));
        check.outOfBounds("15 no task", () -> planner.release(2));
        check.outOfBounds("16 no task", () -> planner.demand(2, 0));
        check.outOfBounds("16 no resource", () -> planner.demand(0, 3));
    }

    private static void find(ProjectPlanner planner, String name, int task, int resource) {
        String missing = "throws " + NoSuchElementException.class.getSimpleName();
        Typist.type(planner, name);
        check.equal("11 task " + name, Check.answer(planner::findTask), task < 0 ? missing : (Object) task);
        check.equal("12 resource " + name, Check.answer(planner::findResource),
            resource < 0 ? missing : (Object) resource);
        check.equal("11 the buffer stays", planner.truncate(name.length()), name.length());
        check.badArgument("11 the buffer stays", () -> planner.truncate(name.length() + 1));
    }

    // 17 to 23
    private static void links() {
        ProjectPlanner planner = Typist.loaded("project 0;resource r 1;task a 1 0;task b 1 0;task c 1 0;"
            + "task d 1 0;task e 1 0;");
        check.equal("17 none", planner.linkCount(), 0);
        link(planner, 4, 2);
        link(planner, 2, 0);
        link(planner, 4, 3);
        link(planner, 3, 1);
        link(planner, 1, 0);
        check.equal("17 links", planner.linkCount(), 5);
        check.equal("18 a link", planner.hasLink(4, 2), true);
        check.equal("18 the other way", planner.hasLink(2, 4), false);
        check.equal("18 not a link but before", planner.hasLink(4, 0), false);
        check.equal("18 itself", planner.hasLink(4, 4), false);
        check.equal("19 by a link", planner.isBefore(4, 2), true);
        check.equal("19 by many", planner.isBefore(4, 0), true);
        check.equal("19 the other way", planner.isBefore(0, 4), false);
        check.equal("19 beside", planner.isBefore(2, 3), false);
        check.equal("19 itself", planner.isBefore(4, 4), false);
        check.equal("20 two", planner.predecessorCount(0), 2);
        check.equal("20 none", planner.predecessorCount(4), 0);
        check.equal("21 all others", planner.followerCount(4), 4);
        check.equal("21 two", planner.followerCount(3), 2);
        check.equal("21 none", planner.followerCount(0), 0);
        check.equal("22 order", order(planner), "42310");
        check.equal("22 the lowest that can stand", order(new ProjectPlanner()), "01234");
        check.equal("23 itself", planner.closedCycleLength(3, 3), 1);
        check.equal("23 one link back", planner.closedCycleLength(0, 1), 2);
        check.equal("23 the shortest of two", planner.closedCycleLength(0, 4), 3);
        check.equal("23 two links back", planner.closedCycleLength(1, 4), 3);
        check.equal("23 none", planner.closedCycleLength(4, 0), -1);
        check.equal("23 none", planner.closedCycleLength(4, 2), -1);
        check.equal("23 beside", planner.closedCycleLength(2, 1), -1);
        check.outOfBounds("22 before the order", () -> planner.topologicalOrder(-1));
        check.outOfBounds("22 behind the order", () -> planner.topologicalOrder(5));
        ProjectPlanner chain = Typist.loaded("project 0;resource r 1;" + tasks(12));
        for (int task = 11; task > 0; task--) {
            link(chain, task, task - 1);
        }
        check.equal("23 the longest", chain.closedCycleLength(0, 11), 12);
        check.equal("21 the most", chain.followerCount(11), 11);
        check.equal("22 backward", order(chain), "11109876543210");
    }

    private static void link(ProjectPlanner planner, int from, int to) {
        planner.addLink(from, to);
    }

    private static String order(ProjectPlanner planner) {
        StringBuilder text = new StringBuilder();
        for (int position = 0; position < planner.taskCount(); position++) {
            text.append(planner.topologicalOrder(position));
        }
        return text.toString();
    }

    // 24 to 31
    private static void dates() {
        ProjectPlanner planner = new ProjectPlanner();
        check.equal("24", earliest(planner), "0 3 8 3 8");
        check.equal("25", latest(planner), "0 3 9 4 8");
        check.equal("26", slacks(planner), "0 0 1 1 0");
        check.equal("27", freeSlacks(planner), "0 0 1 1 0");
        check.equal("28 critical", planner.isCritical(4), true);
        check.equal("28 not critical", planner.isCritical(3), false);
        check.equal("29", planner.criticalCount(), 3);
        check.equal("30", planner.projectLength(), 11);
        planner.setRelease(3, 6);
        planner.setRelease(1, 1);
        check.equal("24 with releases", earliest(planner), "0 3 8 6 10");
        check.equal("25 with releases", latest(planner), "2 5 11 6 10");
        check.equal("26 with releases", slacks(planner), "2 2 3 0 0");
        check.equal("27 with releases", freeSlacks(planner), "0 0 3 0 0");
        check.equal("29 with releases", planner.criticalCount(), 2);
        check.equal("30 with releases", planner.projectLength(), 13);
        ProjectPlanner crowd = Typist.loaded("project 0;resource r 2;resource q 1;task a 4 1 0;task b 2 2 0;"
            + "task c 1 1 1;task d 3 0 1;task e 2 2 0 after a;");
        check.equal("31 over on two days", crowd.overloadedDays(0), 2);
        check.equal("31 over on one day", crowd.overloadedDays(1), 1);
        crowd.setRelease(3, 4);
        check.equal("31 never over", crowd.overloadedDays(1), 0);
        crowd.setRelease(1, 5);
        check.equal("31 on a later day", crowd.overloadedDays(0), 1);
    }

    private static String earliest(ProjectPlanner planner) {
        return Shown.each(planner, planner::earliestStart);
    }

    private static String latest(ProjectPlanner planner) {
        return Shown.each(planner, planner::latestStart);
    }

    private static String slacks(ProjectPlanner planner) {
        return Shown.each(planner, planner::slack);
    }

    private static String freeSlacks(ProjectPlanner planner) {
        return Shown.each(planner, planner::freeSlack);
    }

    private static String starts(ProjectPlanner planner) {
        return Shown.each(planner, planner::startDay);
    }

    // 32 to 35
    private static void schedule() {
        ProjectPlanner planner = Typist.loaded(ONE_OF_TWO);
        check.equal("32 one after the other", starts(planner), "0 2");
        check.equal("33", planner.finishDay(0), 2);
        check.equal("33", planner.finishDay(1), 5);
        check.equal("34", planner.delay(0), 0);
        check.equal("34", planner.delay(1), 2);
        check.equal("35", planner.makespan(), 5);
        planner.setRelease(0, 2);
        check.equal("32 a gap is not wide enough", starts(planner), "2 4");
        check.equal("34 counts from the earliest start", planner.delay(0), 0);
        planner.setRelease(0, 3);
        check.equal("32 a gap is just wide enough", starts(planner), "3 0");
        planner.addLink(0, 1);
        check.equal("32 not before the predecessor's finish", starts(planner), "3 5");
        planner.setRelease(1, 40);
        check.equal("32 not before the release", starts(planner), "3 40");
        planner.setRelease(0, 99);
        planner.setDuration(1, 30);
        check.equal("35 far", planner.makespan(), 131);
        ProjectPlanner late = Typist.loaded("project 0;resource r 1;task a 30 1;task b 30 1;task c 30 1;task d 30 1;"
            + "task e 30 1;task f 30 1;task g 30 1;task h 30 1;task i 30 1;task j 30 1;task k 30 1;task l 30 1;");
        for (int task = 0; task < 12; task++) {
            late.setRelease(task, 99);
        }
        check.equal("35 the farthest", late.makespan(), 459);
        check.equal("36 the last day", late.usage(0, 458), 1);
        check.equal("36 behind the last day", late.usage(0, 459), 0);
        ProjectPlanner second = Typist.loaded("project 0;resource r 9;resource q 1;task a 2 1 1;task b 3 1 1;");
        check.equal("32 the second resource counts too", starts(second), "0 2");
        ProjectPlanner edges = Typist.loaded("project 0;resource r 2;task a 3 1;task b 3 1;task c 3 1;");
        check.equal("32 up to the capacity", starts(edges), "0 0 3");
    }

    // 9, 32, 45, 46
    private static void rules() {
        ProjectPlanner planner = Typist.loaded("project 0;resource r 1;task a 1 1;task b 5 1;task c 2 1;"
            + "task d 4 1 after c;task e 1 1 after d;");
        check.equal("32 rule 0", starts(planner), "0 1 6 8 12");
        check.equal("45 rule 0", planner.makespanWith(0), 13);
        planner.setRule(1);
        check.equal("32 rule 1", starts(planner), "11 2 0 7 12");
        planner.setRule(2);
        check.equal("32 rule 2", starts(planner), "11 0 5 7 12");
        planner.setRule(3);
        check.equal("32 rule 3", starts(planner), "6 7 0 2 12");
        ProjectPlanner tie = Typist.loaded("project 1;resource r 1;task a 2 1;task b 2 1;");
        for (int rule = 0; rule <= 3; rule++) {
            tie.setRule(rule);
            check.equal("32 the lowest number wins a tie", starts(tie), "0 2");
        }
        check.equal("46 a tie", tie.bestRule(), 0);
        ProjectPlanner spread = Typist.loaded("project 0;resource r 2;task a 2 1;task b 2 1;task c 4 1;");
        check.equal("45", spread.makespanWith(0), 6);
        check.equal("45", spread.makespanWith(2), 4);
        check.equal("45 nothing changes", spread.rule(), 0);
        check.equal("35", spread.makespan(), 6);
        check.equal("46 rule 1 finds the long one too", spread.bestRule(), 1);
        ProjectPlanner third = Typist.loaded("project 0;resource r 1;task a 3 1;task b 4 1;task c 4 1 after a b;"
            + "task d 1 1 after b;task e 3 0 after d;");
        check.equal("45 rule 0", third.makespanWith(0), 15);
        check.equal("45 rule 1", third.makespanWith(1), 15);
        check.equal("45 rule 2", third.makespanWith(2), 15);
        check.equal("45 rule 3", third.makespanWith(3), 12);
        check.equal("46 the last rule", third.bestRule(), 3);
        check.badArgument("45", () -> spread.makespanWith(4));
        check.badArgument("45", () -> spread.makespanWith(-1));
        ProjectPlanner longest = Typist.loaded("project 0;resource r 1;resource q 1;task a 1 1 0;task b 2 0 1 after a;"
            + "task c 1 0 1;task d 3 1 0 after c;task e 4 1 1;");
        int best = longest.bestRule();
        for (int rule = 0; rule <= 3; rule++) {
            int length = longest.makespanWith(rule);
            check.equal("46 no rule is better", length >= longest.makespanWith(best), true);
            check.equal("46 no earlier rule is as good", rule >= best || length > longest.makespanWith(best), true);
            longest.setRule(rule);
            check.equal("45 as if it were set", longest.makespan(), length);
        }
    }

    // 36 to 39
    private static void days() {
        ProjectPlanner planner = new ProjectPlanner();
        check.equal("36 dig", planner.usage(0, 0), 2);
        check.equal("36 the last day of dig", planner.usage(0, 2), 2);
        check.equal("36 wall and pipe", planner.usage(0, 3), 3);
        check.equal("36 wall", planner.usage(0, 7), 2);
        check.equal("36 paint", planner.usage(0, 10), 1);
        check.equal("36 nobody", planner.usage(0, 11), 0);
        check.equal("36 the last day that can be asked", planner.usage(1, 999), 0);
        check.equal("36 crane", planner.usage(1, 2), 0);
        check.equal("36 crane", planner.usage(1, 9), 1);
        check.badArgument("36 day", () -> planner.usage(0, 1000));
        check.badArgument("36 day", () -> planner.usage(0, -1));
        check.outOfBounds("36 the resource first", () -> planner.usage(2, -1));
        check.equal("37 crew", planner.peakUsage(0), 3);
        check.equal("37 crane", planner.peakUsage(1), 1);
        check.equal("37 nobody", Typist.loaded("project 0;resource r 1;task a 1 0;").peakUsage(0), 0);
        check.equal("38 one", planner.runningCount(0), 1);
        check.equal("38 two", planner.runningCount(3), 2);
        check.equal("38 two", planner.runningCount(9), 2);
        check.equal("38 one", planner.runningCount(10), 1);
        check.equal("38 none", planner.runningCount(11), 0);
        check.equal("38 none", planner.runningCount(999), 0);
        check.badArgument("38 day", () -> planner.runningCount(1000));
        check.badArgument("38 day", () -> planner.runningCount(-1));
        planner.setRelease(3, 3);
        check.equal("39 before the release and the predecessor", planner.whyNotOn(3, 2), 1);
        check.equal("39 before the predecessor's finish", planner.whyNotOn(1, 2), 2);
        check.equal("39 where it stands", planner.whyNotOn(1, 3), 0);
        check.equal("39 the first reason", planner.whyNotOn(1, 0), 2);
        check.equal("39 into the successor", planner.whyNotOn(1, 4), 3);
        check.equal("39 up to the successor", planner.whyNotOn(3, 4), 0);
        check.equal("39 into the successor", planner.whyNotOn(3, 5), 3);
        check.equal("39 far", planner.whyNotOn(4, 999), 0);
        planner.setCapacity(0, 2);
        check.equal("32 pipe waits", starts(planner), "0 3 8 8 12");
        check.equal("39 no room", planner.whyNotOn(3, 7), 4);
        check.equal("39 no room on the first days alone", planner.whyNotOn(3, 3), 4);
        check.equal("39 its own usage does not count", planner.whyNotOn(3, 8), 0);
        check.equal("39 into the successor before no room", planner.whyNotOn(3, 12), 3);
        check.equal("39 no room on the last day alone", Typist.loaded(
            "project 0;resource r 1;task a 2 1;task b 2 1;task c 2 1;").whyNotOn(2, 3), 4);
        ProjectPlanner back = Typist.loaded("project 0;resource r 1;task a 2 0;task b 3 0;");
        back.addLink(1, 0);
        check.equal("39 the successor has the number 0", back.whyNotOn(1, 1), 3);
        check.equal("25 the successor has the number 0", latest(back), "3 0");
        check.equal("27 the successor has the number 0", freeSlacks(back), "0 0");
        check.outOfBounds("39 the task first", () -> planner.whyNotOn(5, -1));
        check.badArgument("39 day", () -> planner.whyNotOn(0, 1000));
        check.badArgument("39 day", () -> planner.whyNotOn(0, -1));
    }

    // 40 to 44
    private static void figures() {
        ProjectPlanner planner = new ProjectPlanner();
        check.equal("40 crew", planner.work(0), 25);
        check.equal("40 crane", planner.work(1), 7);
        check.equal("41 the length", planner.lowerBound(), 11);
        check.equal("42 crew", planner.utilization(0), (float) 25 / (float) 33);
        check.equal("42 crane", planner.utilization(1), (float) 7 / (float) 11);
        check.equal("43", planner.meanSlack(), 0.4);
        check.equal("44", planner.inconsistencies(), 0);
        planner.setCapacity(0, 2);
        check.equal("41 rounded up", planner.lowerBound(), 13);
        check.equal("42 with the makespan of the schedule", planner.utilization(0), (float) 25 / (float) 30);
        planner.setDuration(4, 4);
        check.equal("41 even", planner.lowerBound(), 13);
        planner.setDuration(4, 6);
        check.equal("41 the length again", planner.lowerBound(), 14);
        check.equal("43 thirds", Typist.loaded("project 0;resource r 1;task a 5 0;task b 1 0;task c 2 0;")
            .meanSlack(), 7.0 / 3.0);
        check.equal("43 the slack of the first", Typist.loaded("project 0;resource r 1;task a 1 0;task b 4 0;")
            .meanSlack(), 1.5);
        check.equal("42 nothing to do", Typist.loaded("project 0;resource r 1;task a 5 0;").utilization(0), 0f);
        check.equal("44", Typist.loaded(ONE_OF_TWO).inconsistencies(), 0);
    }

    // 47 to 49
    private static void whatWouldBe() {
        ProjectPlanner planner = Typist.loaded("project 0;resource p 1;resource q 1;task a 4 1 1;task b 4 1 0;"
            + "task c 2 0 1;");
        check.equal("35", planner.makespan(), 8);
        check.equal("47 no gain", planner.makespanWithMore(1), 8);
        check.equal("47 gain", planner.makespanWithMore(0), 6);
        check.equal("47 nothing changes", planner.capacity(0), 1);
        check.equal("35 nothing changes", planner.makespan(), 8);
        check.equal("48 the first", planner.bottleneck(), 0);
        check.equal("49", planner.makespanWithDuration(0, 30), 34);
        check.equal("49", planner.makespanWithDuration(0, 1), 5);
        check.equal("49 nothing changes", planner.duration(0), 4);
        check.outOfBounds("49 the task first", () -> planner.makespanWithDuration(3, 0));
        check.badArgument("49 duration", () -> planner.makespanWithDuration(0, 0));
        check.badArgument("49 duration", () -> planner.makespanWithDuration(0, 31));
        check.outOfBounds("47", () -> planner.makespanWithMore(2));
        check.badState("47 no change to undo", planner::undo);
        check.equal("48 none", new ProjectPlanner().bottleneck(), -1);
        check.equal("48 the second", Typist.loaded(
            "project 0;resource p 9;resource q 1;task a 4 1 1;task b 4 1 1;").bottleneck(), 1);
        check.equal("48 a tie", Typist.loaded(
            "project 0;resource p 1;resource q 1;task a 2 1 0;task b 2 1 0;task c 2 0 1 after a b;"
            + "task d 2 0 1 after a b;").bottleneck(), 0);
        check.equal("48 the second gains more", Typist.loaded(
            "project 0;resource p 1;resource q 1;task a 2 1 0;task b 2 1 0;task c 3 0 1 after a b;"
            + "task d 3 0 1 after a b;").bottleneck(), 1);
        ProjectPlanner nine = Typist.loaded("project 0;resource p 9;task a 2 9;task b 2 1;");
        check.equal("47 ten units", nine.makespanWithMore(0), 2);
        check.equal("48 ten units", nine.bottleneck(), 0);
        ProjectPlanner most = Typist.loaded("project 0;resource p 1;resource q 1;task a 3 1 0;task b 1 1 0;"
            + "task c 3 0 1;task d 2 0 1;");
        check.equal("48 the makespan is held by the other", most.makespanWithMore(0), 5);
        check.equal("48 the one that holds the makespan", most.bottleneck(), 1);
    }

    // 50 to 52, 56
    private static void simpleChanges() {
        ProjectPlanner planner = new ProjectPlanner();
        check.equal("50 previous", planner.setDuration(0, 30), 3);
        check.equal("50 previous", planner.setDuration(0, 1), 30);
        check.equal("50 set", planner.duration(0), 1);
        check.badArgument("50 too short", () -> planner.setDuration(0, 0));
        check.badArgument("50 too long", () -> planner.setDuration(0, 31));
        check.outOfBounds("50 the task first", () -> planner.setDuration(5, 31));
        check.equal("51 previous", planner.setDemand(1, 0, 3), 2);
        check.equal("51 previous", planner.setDemand(1, 0, 0), 3);
        check.equal("51 set", planner.demand(1, 0), 0);
        check.equal("51 another resource", planner.setDemand(3, 1, 1), 0);
        check.equal("51 another resource", planner.demand(3, 1), 1);
        check.equal("51 the others stay", planner.demand(1, 1) * 10 + planner.demand(0, 0), 12);
        check.badArgument("51 over the capacity", () -> planner.setDemand(1, 1, 2));
        check.badArgument("51 negative", () -> planner.setDemand(1, 1, -1));
        check.outOfBounds("51 the task first", () -> planner.setDemand(5, 0, -1));
        check.outOfBounds("51 the resource first", () -> planner.setDemand(0, 2, -1));
        check.equal("52 previous", planner.setRelease(2, 99), 0);
        check.equal("52 previous", planner.setRelease(2, 0), 99);
        check.badArgument("52 too late", () -> planner.setRelease(2, 100));
        check.badArgument("52 negative", () -> planner.setRelease(2, -1));
        check.outOfBounds("52 the task first", () -> planner.setRelease(-1, 100));
        check.equal("56 previous", planner.setRule(3), 1);
        check.equal("56 previous", planner.setRule(0), 3);
        check.equal("56 set", planner.rule(), 0);
        check.badArgument("56", () -> planner.setRule(4));
        check.badArgument("56", () -> planner.setRule(-1));
        check.equal("56 the failed calls changed nothing", planner.rule(), 0);
    }

    // 53, 54
    private static void linkChanges() {
        ProjectPlanner planner = new ProjectPlanner();
        check.equal("53 links", planner.addLink(2, 4), 6);
        check.equal("53 there it is", planner.hasLink(2, 4), true);
        check.badState("53 again", () -> planner.addLink(2, 4));
        check.badState("53 to itself", () -> planner.addLink(2, 2));
        check.badState("53 a cycle of two", () -> planner.addLink(4, 2));
        check.badState("53 a longer cycle", () -> planner.addLink(4, 0));
        check.outOfBounds("53 from", () -> planner.addLink(5, 0));
        check.outOfBounds("53 from", () -> planner.addLink(-1, 0));
        check.outOfBounds("53 to", () -> planner.addLink(0, -1));
        check.equal("53 nothing more", planner.linkCount(), 6);
        check.equal("54 links", planner.removeLink(2, 4), 5);
        check.equal("54 it is gone", planner.hasLink(2, 4), false);
        check.badState("54 again", () -> planner.removeLink(2, 4));
        check.badState("54 the other way", () -> planner.removeLink(1, 0));
        check.badState("54 itself", () -> planner.removeLink(0, 0));
        check.outOfBounds("54 from", () -> planner.removeLink(-1, 0));
        check.outOfBounds("54 to", () -> planner.removeLink(0, 5));
        check.equal("54 the rest stays", planner.linkCount(), 5);
        check.equal("53 backward now", planner.addLink(4, 2), 6);
    }

    // 55
    private static void capacityChanges() {
        ProjectPlanner planner = new ProjectPlanner();
        check.equal("55 previous", planner.setCapacity(0, 9), 3);
        check.equal("55 previous", planner.setCapacity(0, 2), 9);
        check.equal("55 set", planner.capacity(0), 2);
        check.badState("55 a greater demand", () -> planner.setCapacity(0, 1));
        check.badArgument("55 the range first", () -> planner.setCapacity(0, 0));
        check.badArgument("55", () -> planner.setCapacity(0, 10));
        check.badArgument("55", () -> planner.setCapacity(1, -1));
        check.outOfBounds("55 the resource first", () -> planner.setCapacity(2, 0));
        check.equal("55 nothing changed", planner.capacity(0), 2);
        planner.setDemand(0, 0, 1);
        planner.setDemand(1, 0, 1);
        check.equal("55 now it can", planner.setCapacity(0, 1), 2);
        check.equal("55 set", planner.capacity(0), 1);
    }

    // 57
    private static void dropping() {
        ProjectPlanner planner = new ProjectPlanner();
        planner.setRelease(4, 5);
        check.equal("57 tasks", planner.dropTask(1), 4);
        check.equal("57 names", Shown.names(planner), "dig roof pipe paint");
        check.equal("57 links", planner.linkCount(), 2);
        check.equal("57 dig to pipe", planner.hasLink(0, 2), true);
        check.equal("57 pipe to paint", planner.hasLink(2, 3), true);
        check.equal("57 what moves down", planner.duration(3) * 1000 + planner.release(3) * 10 + planner.demand(1, 1),
            3051);
        check.equal("57 what moves down", planner.demand(0, 0) * 100 + planner.demand(2, 0) * 10 + planner.demand(2, 1),
            210);
        check.equal("38 without the dropped one", planner.runningCount(3), 1);
        check.equal("38 without the dropped one", planner.runningCount(1), 2);
        check.equal("40 without the dropped one", planner.work(0), 15);
        check.outOfBounds("57 it is gone", () -> planner.dropTask(4));
        check.outOfBounds("57 negative", () -> planner.dropTask(-1));
        check.equal("57 the first", planner.dropTask(0), 3);
        check.equal("57 the last", planner.dropTask(2), 2);
        check.equal("57 one more", planner.dropTask(0), 1);
        check.equal("57 names", Shown.names(planner), "pipe");
        check.badState("57 the only one", () -> planner.dropTask(0));
        check.outOfBounds("57 the task first", () -> planner.dropTask(1));
        check.equal("57 still there", planner.taskCount(), 1);
    }

    // 58
    private static void scripts() {
        ProjectPlanner planner = new ProjectPlanner();
        check.equal("58 each command", Typist.script(planner, "duration dig 7;demand wall crew 3;release roof 20;"
            + "link roof paint;unlink dig pipe;capacity crane 2;rule 2;drop pipe;"), 8);
        check.equal("58 duration", planner.duration(0), 7);
        check.equal("58 demand", planner.demand(1, 0), 3);
        check.equal("58 release", planner.release(2), 20);
        check.equal("58 link", planner.hasLink(2, 3), true);
        check.equal("58 links", planner.linkCount(), 4);
        check.equal("58 capacity", planner.capacity(1), 2);
        check.equal("58 rule", planner.rule(), 2);
        check.equal("58 drop", Shown.names(planner), "dig wall roof paint");
        check.equal("5 no error", planner.errorCode(), 0);
        check.equal("6 no error", planner.errorPosition(), -1);
        check.badArgument("58 empties", () -> planner.truncate(1));
        check.equal("58 a single change", planner.undo(), 0);
        same("58 undone", planner, new ProjectPlanner());

        check.equal("58 nothing", Typist.script(planner, " \n"), 0);
        check.equal("58 nothing is a change", planner.undo(), 0);
        planner.setRelease(0, 4);
        check.equal("58 the least numbers", Typist.script(planner,
            "release dig 0;duration dig 1;demand wall crane 0;rule 0;"), 4);
        check.equal("58 the least numbers", planner.release(0) * 10 + planner.duration(0), 1);
        planner.undo();
        planner.undo();
        check.equal("58 the greatest numbers", Typist.script(planner,
            "release dig 99;duration dig 30;demand wall crew 3;rule 3;capacity crane 9;"), 5);
        planner.undo();
        stops(0, "duration dig 0;rule 0;");
        stops(0, "duration dig 31;rule 0;");
        stops(0, "demand wall crane 2;rule 0;");
        stops(0, "release dig 100;rule 0;");
        stops(0, "link dig dig;rule 0;");
        stops(0, "link paint dig;rule 0;");
        stops(0, "link dig wall;rule 0;");
        stops(0, "unlink wall dig;rule 0;");
        stops(1, "drop dig;unlink dig wall;rule 0;");
        stops(1, "drop wall;unlink dig wall;rule 0;");
        stops(1, "drop wall;demand wall crew 1;rule 0;");
        stops(1, "drop wall;release wall 1;rule 0;");
        stops(0, "capacity crew 1;rule 0;");
        stops(0, "capacity crew 10;rule 0;");
        stops(0, "capacity crew 0;rule 0;");
        stops(0, "rule 4;rule 0;");
        stops(0, "rule 999;rule 0;");
        stops(1, "drop dig;drop dig;rule 0;");
        stops(1, "drop dig;duration dig 5;rule 0;");
        stops(1, "drop dig;link wall dig;rule 0;");
        stops(4, "drop dig;drop wall;drop roof;drop pipe;drop paint;rule 0;");
        check.equal("58 a name after its number has moved",
            Typist.script(planner, "drop dig;duration paint 9;"), 2);
        check.equal("58 a name after its number has moved", planner.duration(3), 9);
        check.equal("58 thirty commands", Typist.script(planner, "rule 1;".repeat(30)), 30);
        check.equal("58 no error after all", planner.errorCode(), 0);
        ProjectPlanner words = Typist.loaded("project 0;resource rule 5;task link 1 1;task drop 1 1;");
        check.equal("58 grammar words as names",
            Typist.script(words, "link link drop;demand drop rule 5;drop drop;capacity rule 6;"), 4);
    }

    private static void stops(int executed, String text) {
        ProjectPlanner planner = new ProjectPlanner();
        check.equal("58 script " + text, Typist.script(planner, text), executed);
        check.equal("58 stopped in " + text, planner.rule(), 1);
        check.equal("58 tasks after " + text, planner.taskCount(), 5 - executed);
        check.equal("5 code of " + text, planner.errorCode(), 0);
        check.equal("58 a change by " + text, planner.undo(), 0);
        same("58 undone " + text, planner, new ProjectPlanner());
    }

    // 59
    private static void undo() {
        ProjectPlanner planner = new ProjectPlanner();
        planner.setDuration(0, 4);
        planner.setDemand(0, 0, 1);
        planner.setRelease(1, 9);
        planner.addLink(2, 4);
        planner.removeLink(0, 1);
        planner.setCapacity(1, 5);
        check.equal("59 capacity", planner.undo(), 5);
        check.equal("59 capacity", planner.capacity(1), 1);
        check.equal("59 removeLink", planner.undo(), 4);
        check.equal("59 removeLink", planner.hasLink(0, 1), true);
        check.equal("59 addLink", planner.undo(), 3);
        check.equal("59 addLink", planner.linkCount(), 5);
        check.equal("59 release", planner.undo(), 2);
        check.equal("59 release", planner.release(1), 0);
        planner.setRule(0);
        planner.dropTask(2);
        check.equal("59 drop", planner.undo(), 3);
        check.equal("59 drop", Shown.names(planner), "dig wall roof pipe paint");
        check.equal("59 rule", planner.undo(), 2);
        check.equal("59 demand", planner.undo(), 1);
        check.equal("59 duration", planner.undo(), 0);
        same("59 all undone", planner, new ProjectPlanner());
        check.badState("59 none left", planner::undo);
        for (int duration = 1; duration <= 9; duration++) {
            planner.setDuration(0, duration);
        }
        for (int left = 5; left >= 0; left--) {
            check.equal("59 the latest six", planner.undo(), left);
        }
        check.equal("59 the latest six", planner.duration(0), 3);
        check.badState("59 the seventh", planner::undo);
        planner.setRule(1);
        planner.setRule(1);
        check.badArgument("59 a failed call", () -> planner.setRule(7));
        check.equal("59 a change that changed nothing", planner.undo(), 1);
        Typist.type(planner, "dig");
        planner.writeSchedule();
        planner.save(0);
        planner.undo();
        check.equal("59 the buffer stays", planner.findTask(), 0);
        check.equal("59 the output stays", planner.outputByte(0), (int) 'd');
        check.equal("59 the saved state stays", planner.restore(0), 5);
    }

    // 60, 61
    private static void saving() {
        ProjectPlanner planner = new ProjectPlanner();
        check.equal("60 tasks", planner.save(1), 5);
        planner.dropTask(0);
        planner.setRule(0);
        check.equal("60 tasks", planner.save(0), 4);
        check.equal("60 is no change", planner.undo(), 1);
        check.badArgument("61 keeps the error", () -> Typist.script(planner, "rule x;"));
        Typist.type(planner, "wall");
        planner.writeSchedule();
        check.equal("61 tasks", planner.restore(1), 5);
        same("61 restored", planner, new ProjectPlanner());
        check.badState("61 clears the history", planner::undo);
        check.equal("61 the error code stays", planner.errorCode(), 1);
        check.equal("61 the error position stays", planner.errorPosition(), 5);
        check.equal("61 the buffer stays", planner.findTask(), 1);
        check.equal("61 the output stays", planner.outputByte(0), (int) 'w');
        planner.setDuration(0, 9);
        check.equal("61 the other slot", planner.restore(0), 4);
        check.equal("61 the other slot", planner.rule(), 0);
        check.equal("61 stays saved", planner.restore(1), 5);
        same("61 stays saved", planner, new ProjectPlanner());
        planner.setDuration(0, 9);
        planner.save(1);
        planner.setDuration(0, 10);
        planner.restore(1);
        check.equal("60 replaces", planner.duration(0), 9);
        check.outOfBounds("60 slot", () -> planner.save(2));
        check.outOfBounds("60 slot", () -> planner.save(-1));
        check.outOfBounds("61 slot", () -> planner.restore(2));
        check.outOfBounds("61 slot", () -> planner.restore(-1));
        ProjectPlanner fresh = new ProjectPlanner();
        fresh.save(0);
        check.badState("61 nothing saved", () -> fresh.restore(1));
    }

    // 62, 63
    private static void output() {
        ProjectPlanner planner = new ProjectPlanner();
        check.outOfBounds("63 nothing written", () -> planner.outputByte(0));
        String first = "dig:0-3* wall:3-8* pipe:3-7 roof:8-10 paint:8-11*";
        check.equal("62 length", planner.writeSchedule(), first.length());
        check.equal("62 text", Typist.output(planner), first);
        planner.dropTask(0);
        check.equal("63 the text that was written", planner.outputByte(0), (int) 'd');
        check.equal("62 replaced", Typist.output(planner), "wall:0-5* pipe:0-4 roof:5-7 paint:5-8*");
        check.equal("63 the last byte", planner.outputByte(37), (int) '*');
        check.outOfBounds("63 behind", () -> planner.outputByte(38));
        check.outOfBounds("63 before", () -> planner.outputByte(-1));
        check.equal("62 by the start day, not the number",
            Typist.output(Typist.loaded("project 2;resource r 1;task a 9 1;task abcdef 30 1;task c 10 1;")),
            "abcdef:0-30* c:30-40 a:40-49");
        ProjectPlanner one = Typist.loaded("project 0;resource r 1;task z 1 1;");
        one.setRelease(0, 99);
        check.equal("62 three digits", Typist.output(one), "z:99-100*");
    }

    // As many tasks and resources as there can be, one after the other, as late as can be.
    private static void fullProject() {
        ProjectPlanner full = Typist.loaded("project 3;resource p 9;resource q 9;resource r 9;"
            + "task abcdef 30 9 9 9;task b 30 9 9 9 after abcdef;task c 30 9 9 9 after b;task d 30 9 9 9 after c;"
            + "task e 30 9 9 9 after d;task f 30 9 9 9 after e;task g 30 9 9 9 after f;task h 30 9 9 9 after g;"
            + "task i 30 9 9 9 after h;task j 30 9 9 9 after i;task k 30 9 9 9 after j;task l 30 9 9 9 after k;");
        full.setRelease(0, 99);
        check.equal("30 full", full.projectLength(), 459);
        check.equal("35 full", full.makespan(), 459);
        check.equal("29 full", full.criticalCount(), 12);
        check.equal("43 full", full.meanSlack(), 0.0);
        check.equal("41 full", full.lowerBound(), 459);
        check.equal("44 full", full.inconsistencies(), 0);
        check.equal("46 full", full.bestRule(), 0);
        check.equal("48 full", full.bottleneck(), -1);
        check.equal("17 full", full.linkCount(), 11);
        check.equal("38 full", full.runningCount(458), 1);
        check.equal("23 full", full.closedCycleLength(11, 0), 12);
        check.equal("21 full", full.followerCount(0), 11);
        check.equal("27 full", full.freeSlack(11), 0);
        check.equal("62 full", full.writeSchedule(), 14 + 11 * 10 + 11);
        for (int resource = 0; resource < 3; resource++) {
            check.equal("31 full", full.overloadedDays(resource), 0);
            check.equal("36 full", full.usage(resource, 458), 9);
            check.equal("37 full", full.peakUsage(resource), 9);
            check.equal("40 full", full.work(resource), 3240);
            check.equal("42 full", full.utilization(resource), 3240f / 4131f);
            check.equal("47 full", full.makespanWithMore(resource), 459);
        }
        check.equal("39 full", full.whyNotOn(11, 999), 0);
        check.equal("57 full", full.dropTask(5), 11);
        check.equal("17 one dropped", full.linkCount(), 9);
        check.equal("35 one dropped", full.makespan(), 339);
    }

    // Rule 7 of LANGUAGE.md: whatever the arguments, the exception is the document's own.
    private static void wildArguments() {
        for (int wild : WILD) {
            ProjectPlanner x = new ProjectPlanner();
            check.outOfBounds("10", () -> x.taskNameByte(wild, 0));
            check.outOfBounds("10", () -> x.taskNameByte(0, wild));
            check.outOfBounds("13", () -> x.capacity(wild));
            check.outOfBounds("14", () -> x.duration(wild));
            check.outOfBounds("15", () -> x.release(wild));
            check.outOfBounds("16", () -> x.demand(wild, 0));
            check.outOfBounds("16", () -> x.demand(0, wild));
            check.outOfBounds("18", () -> x.hasLink(wild, 0));
            check.outOfBounds("18", () -> x.hasLink(0, wild));
            check.outOfBounds("19", () -> x.isBefore(wild, 0));
            check.outOfBounds("19", () -> x.isBefore(0, wild));
            check.outOfBounds("20", () -> x.predecessorCount(wild));
            check.outOfBounds("21", () -> x.followerCount(wild));
            check.outOfBounds("22", () -> x.topologicalOrder(wild));
            check.outOfBounds("23", () -> x.closedCycleLength(wild, 0));
            check.outOfBounds("23", () -> x.closedCycleLength(0, wild));
            check.outOfBounds("23", () -> x.closedCycleLength(wild, wild));
            check.outOfBounds("24", () -> x.earliestStart(wild));
            check.outOfBounds("25", () -> x.latestStart(wild));
            check.outOfBounds("26", () -> x.slack(wild));
            check.outOfBounds("27", () -> x.freeSlack(wild));
            check.outOfBounds("28", () -> x.isCritical(wild));
            check.outOfBounds("31", () -> x.overloadedDays(wild));
            check.outOfBounds("32", () -> x.startDay(wild));
            check.outOfBounds("33", () -> x.finishDay(wild));
            check.outOfBounds("34", () -> x.delay(wild));
            check.outOfBounds("36", () -> x.usage(wild, 0));
            check.outOfBounds("37", () -> x.peakUsage(wild));
            check.outOfBounds("39", () -> x.whyNotOn(wild, 0));
            check.outOfBounds("40", () -> x.work(wild));
            check.outOfBounds("42", () -> x.utilization(wild));
            check.outOfBounds("47", () -> x.makespanWithMore(wild));
            check.outOfBounds("49", () -> x.makespanWithDuration(wild, 1));
            check.outOfBounds("50", () -> x.setDuration(wild, 1));
            check.outOfBounds("51", () -> x.setDemand(wild, 0, 0));
            check.outOfBounds("51", () -> x.setDemand(0, wild, 0));
            check.outOfBounds("52", () -> x.setRelease(wild, 0));
            check.outOfBounds("53", () -> x.addLink(wild, wild));
            check.outOfBounds("53", () -> x.addLink(0, wild));
            check.outOfBounds("54", () -> x.removeLink(wild, 0));
            check.outOfBounds("54", () -> x.removeLink(0, wild));
            check.outOfBounds("55", () -> x.setCapacity(wild, 1));
            check.outOfBounds("57", () -> x.dropTask(wild));
            check.outOfBounds("60", () -> x.save(wild));
            check.outOfBounds("61", () -> x.restore(wild));
            check.outOfBounds("63", () -> x.outputByte(wild));
            check.badArgument("3", () -> x.truncate(wild));
            check.badArgument("45", () -> x.makespanWith(wild));
            check.badArgument("56", () -> x.setRule(wild));
            check.badArgument("51", () -> x.setDemand(0, 0, wild));
            check.badArgument("55", () -> x.setCapacity(0, wild));
        }
        for (int wild : new int[] {Integer.MIN_VALUE, -1, 1000, Integer.MAX_VALUE}) {
            ProjectPlanner x = new ProjectPlanner();
            check.badArgument("36", () -> x.usage(0, wild));
            check.badArgument("38", () -> x.runningCount(wild));
            check.badArgument("39", () -> x.whyNotOn(0, wild));
            check.badArgument("49", () -> x.makespanWithDuration(0, wild));
            check.badArgument("50", () -> x.setDuration(0, wild));
            check.badArgument("52", () -> x.setRelease(0, wild));
        }
    }

    private static void same(String what, ProjectPlanner got, ProjectPlanner due) {
        check.equal(what, Shown.project(got), Shown.project(due));
    }
}
