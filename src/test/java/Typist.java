/** Puts texts into the input buffer of a planner. */
final class Typist {
    private Typist() {
    }

    /** Appends the bytes of the text (characters 0 to 255). */
    static void type(ProjectPlanner planner, String text, int lengthBefore) {
        for (int index = 0; index < text.length(); index += 20) {
            int[] words = new int[5];
            for (int place = 0; place < 20; place++) {
                int value = index + place < text.length() ? text.charAt(index + place) : ' ';
                words[place / 4] |= value << (24 - 8 * (place % 4));
            }
            planner.append(words[0], words[1], words[2], words[3], words[4]);
        }
        planner.truncate(lengthBefore + text.length());
    }

    /** Replaces what is in the buffer. */
    static void type(ProjectPlanner planner, String text) {
        planner.truncate(0);
        type(planner, text, 0);
    }

    static ProjectPlanner loaded(String setup) {
        ProjectPlanner planner = new ProjectPlanner();
        load(planner, setup);
        return planner;
    }

    static int load(ProjectPlanner planner, String setup) {
        type(planner, setup);
        return planner.load();
    }

    static int script(ProjectPlanner planner, String text) {
        type(planner, text);
        return planner.runScript();
    }

    static String output(ProjectPlanner planner) {
        StringBuilder text = new StringBuilder();
        int length = planner.writeSchedule();
        for (int index = 0; index < length; index++) {
            text.append((char) planner.outputByte(index));
        }
        return text.toString();
    }

    static String taskName(ProjectPlanner planner, int task) {
        StringBuilder name = new StringBuilder();
        for (int index = 0; index < 7; index++) {
            try {
                name.append((char) planner.taskNameByte(task, index));
            } catch (IndexOutOfBoundsException e) {
                break;
            }
        }
        return name.toString();
    }
}
