import java.util.ArrayList;
import java.util.List;

/** Promises 1 to 6: a new object, the input buffer, the setup text with its grammar, and the errors. */
final class TextBoundaries extends Boundary {
    private static final String TWO = "project 1;resource r 3;resource q 1;";

    // ---- 1, a new object

    static void p01_theProjectOfTheSetupText() {
        says("Creates the project of the setup text \"" + FIRST + "\".");
        for (Shown.Part part : Shown.all()) {
            is(part.of(new ProjectPlanner()), part.of(loaded(FIRST)));
        }
        is(Shown.project(new ProjectPlanner()), "1/3 1 /dig 3 0 2 0/wall 5 0 2 1 after 0/roof 2 0 1 1 after 1"
            + "/pipe 4 0 1 0 after 0/paint 3 0 1 0 after 1 after 3");
    }

    static void p01_theBufferIsEmpty() {
        says("The input buffer is empty and nothing is saved.", "It is empty at first.");
        is(new ProjectPlanner().append(0, 0, 0, 0, 0), 20);
        is(new ProjectPlanner().truncate(0), 0);
        badArgument(ProjectPlanner::new, planner -> planner.truncate(1));
        noElement(ProjectPlanner::new, ProjectPlanner::findTask);
        is(setupErrorOf(""), failed(1, 0));
    }

    static void p01_nothingIsSaved() {
        says("The input buffer is empty and nothing is saved.");
        badState(ProjectPlanner::new, planner -> planner.restore(0));
        badState(ProjectPlanner::new, planner -> planner.restore(1));
        badState(ProjectPlanner::new, ProjectPlanner::undo);
        outOfBounds(ProjectPlanner::new, planner -> planner.outputByte(0));
    }

    static void p01_objectsShareNothing() {
        ProjectPlanner one = new ProjectPlanner();
        ProjectPlanner other = eventful();
        Typist.load(other, FULL);
        other.save(0);
        other.setRule(0);
        other.writeSchedule();
        other.append(1, 2, 3, 4, 5);
        is(Shown.errors(one) + Shown.project(one), "error 0 at -1" + Shown.project(loaded(FIRST)));
        is(Shown.length(one), 0);
        badState(() -> one, planner -> planner.restore(0));
        badState(() -> one, ProjectPlanner::undo);
        outOfBounds(() -> one, planner -> planner.outputByte(0));
    }

    // ---- 2, append

    static void p02_eachByteInItsPlace() {
        says("Appends 20 bytes to the input buffer: the four bytes of each argument, the most significant byte first.",
            "`a`: bytes 1 to 4", "`b`: bytes 5 to 8", "`c`: bytes 9 to 12", "`d`: bytes 13 to 16",
            "`e`: bytes 17 to 20");
        for (int place = 0; place < 20; place++) {
            int[] words = {0x20202020, 0x0A0A0A0A, 0x200A200A, 0x20202020, 0x0A20200A};
            int shift = 24 - 8 * (place % 4);
            words[place / 4] = words[place / 4] & ~(255 << shift) | '!' << shift;
            ProjectPlanner planner = new ProjectPlanner();
            planner.append(words[0], words[1], words[2], words[3], words[4]);
            is("place " + place, Check.answer(planner::load) + " " + Shown.errors(planner), failed(1, place));
        }
    }

    static void p02_everyByte() {
        says("Appends 20 bytes to the input buffer: the four bytes of each argument, the most significant byte first.");
        ProjectPlanner words = new ProjectPlanner();
        words.append(0x70697065, -1, MIN, MAX, 0x80FF7F00);
        words.truncate(4);
        is("pipe", words.findTask(), 3);
        for (int value = 0; value < 256; value++) {
            ProjectPlanner planner = loaded(ONE_UNIT + "task a 1 0;task z 1 0;");
            planner.append(value << 24, 0, 0, 0, 0);
            planner.truncate(1);
            is("byte " + value, Check.answer(planner::findTask),
                value == 'a' ? (Object) 0 : value == 'z' ? (Object) 1 : "throws NoSuchElementException");
        }
    }

    static void p02_upTo600() {
        says("Returns the new length of the buffer.", "The input buffer holds at most 600 bytes.");
        ProjectPlanner planner = new ProjectPlanner();
        for (int length = 20; length <= 600; length += 20) {
            is(planner.append(length, 0, 0, 0, 0), length);
        }
        is("exactly 600", Shown.length(planner), 600);
        for (int before : new int[] {1, 19, 20, 21, 579, 580}) {
            planner = eventful();
            Typist.type(planner, padded("", before));
            is("from " + before, planner.append(0, 0, 0, 0, 0), before + 20);
        }
    }

    static void p02_noMoreThan600() {
        says("Throws `IllegalStateException` if the new length would exceed 600");
        for (int before : new int[] {581, 582, 599, 600}) {
            badState(() -> {
                ProjectPlanner planner = eventful();
                Typist.type(planner, padded(FIRST, before));
                return planner;
            }, planner -> planner.append(0x21212121, 1, 2, 3, 4));
        }
    }

    static void p02_behindWhatIsLeft() {
        says("Appends 20 bytes to the input buffer: the four bytes of each argument, the most significant byte first.");
        ProjectPlanner planner = new ProjectPlanner();
        Typist.type(planner, "wallpaperpipe and what else there is");
        planner.truncate(2);
        planner.append(0x6C6C0000, 0, 0, 0, 0);
        planner.truncate(4);
        is("wa and ll", planner.findTask(), 1);
        planner.truncate(0);
        is("from the start again", planner.append(0x64696700, 0, 0, 0, 0), 20);
        planner.truncate(3);
        is("dig", planner.findTask(), 0);
    }

    static void p02_leavesTheRest() {
        says("Appends 20 bytes to the input buffer: the four bytes of each argument, the most significant byte first.");
        leavesAllButTheBuffer(planner -> planner.append(0x72756C65, 0x20333B20, 0, MIN, -1));
    }

    private static void leavesAllButTheBuffer(Use call) {
        List<Shown.Part> parts = Shown.allButTexts();
        parts.add(Shown::errors);
        for (Shown.Part part : parts) {
            leaves("all but the buffer", call, part);
        }
    }

    // ---- 3, truncate

    static void p03_fromNothingToTheLength() {
        says("Truncates the input buffer.", "Returns the new length.",
            "`length`: new length of the buffer, 0 to its current length");
        for (int length = 0; length <= 600; length++) {
            ProjectPlanner planner = new ProjectPlanner();
            Typist.type(planner, padded("", 600));
            is(planner.truncate(length), length);
            is("what is left", Shown.length(planner), length);
        }
        is("of nothing", new ProjectPlanner().truncate(0), 0);
    }

    static void p03_theFirstBytesStay() {
        says("Truncates the input buffer.");
        ProjectPlanner planner = new ProjectPlanner();
        Typist.type(planner, "digwall");
        planner.truncate(7);
        planner.truncate(3);
        is(planner.findTask(), 0);
        planner.truncate(3);
        is("to the same length", planner.findTask(), 0);
    }

    static void p03_leavesTheRest() {
        says("Truncates the input buffer.");
        leavesAllButTheBuffer(planner -> planner.truncate(0));
        leavesAllButTheBuffer(planner -> planner.truncate(9));
    }

    static void p03_outOfRange() {
        says("Throws `IllegalArgumentException` if length is out of range");
        for (int length : new int[] {0, 1, 35, 599, 600}) {
            Maker maker = () -> {
                ProjectPlanner planner = eventful();
                Typist.type(planner, padded("", length));
                return planner;
            };
            for (int wrong : new int[] {-1, length + 1, length + 20, 601, MIN, MAX, -length - 1}) {
                badArgument(maker, planner -> planner.truncate(wrong));
            }
        }
        badArgument(() -> {
            ProjectPlanner planner = eventful();
            planner.truncate(30);
            return planner;
        }, planner -> planner.truncate(31));
    }

    // ---- 4, load: what it does

    static void p04_emptiesTheBuffer() {
        says("Parses the input buffer as a setup text and empties the buffer, also if the text has an error.");
        for (String text : new String[] {"", LEAST, FIRST, padded(FIRST, 600), "!", padded("project", 600), "project 4"}) {
            ProjectPlanner planner = new ProjectPlanner();
            Typist.type(planner, text);
            Check.answer(planner::load);
            is(text, Shown.length(planner), 0);
            is("again after " + text, Check.answer(planner::load) + Shown.errors(planner),
                "throws IllegalArgumentExceptionerror 1 at 0");
        }
    }

    static void p04_replacesTheWholeState() {
        says("A valid setup replaces the whole state, discards the saved states, and clears the undo history.");
        String[] texts = {LEAST, FIRST, FULL, dense(12), bare(12)};
        for (String before : texts) {
            for (String text : texts) {
                for (Shown.Part part : Shown.all()) {
                    ProjectPlanner planner = loaded(before);
                    planner.setRelease(0, 99);
                    planner.save(0);
                    planner.makespanWithDuration(0, 30);
                    Typist.load(planner, text);
                    is(part.of(planner), part.of(loaded(text)));
                }
            }
        }
    }

    static void p04_releasesAreZeroAtFirst() {
        says("A task has a name, a duration (1 to 30 days), a release day (0 to 99; 0 at first) and, for each resource, "
            + "a demand (0 to 9 units), which never exceeds the capacity.");
        ProjectPlanner planner = loaded(bare(12));
        for (int task = 0; task < 12; task++) {
            planner.setRelease(task, 99);
        }
        planner.bestRule();
        planner.bottleneck();
        Typist.load(planner, bare(12));
        is(Shown.each(planner, planner::release), "0 0 0 0 0 0 0 0 0 0 0 0");
    }

    static void p04_nothingIsLeftOfATextWithAnError() {
        says("A valid setup replaces the whole state, discards the saved states, and clears the undo history.");
        for (String text : new String[] {LEAST, FIRST, bare(12)}) {
            for (Shown.Part part : Shown.all()) {
                ProjectPlanner planner = new ProjectPlanner();
                is(errorOf(planner, FULL + "x", ProjectPlanner::load), failed(1, FULL.length()));
                Typist.load(planner, text);
                is(part.of(planner), part.of(loaded(text)));
            }
        }
    }

    static void p04_discardsBothSavedStates() {
        says("A valid setup replaces the whole state, discards the saved states, and clears the undo history.");
        for (int slot = 0; slot < 2; slot++) {
            int asked = slot;
            badState(() -> {
                ProjectPlanner planner = new ProjectPlanner();
                planner.save(0);
                planner.save(1);
                Typist.load(planner, LEAST);
                return planner;
            }, planner -> planner.restore(asked));
        }
    }

    static void p04_clearsTheHistory() {
        says("A valid setup replaces the whole state, discards the saved states, and clears the undo history.");
        for (int changes = 0; changes <= 7; changes++) {
            int count = changes;
            badState(() -> {
                ProjectPlanner planner = new ProjectPlanner();
                for (int change = 0; change < count; change++) {
                    planner.setRule(0);
                }
                Typist.load(planner, FIRST);
                return planner;
            }, ProjectPlanner::undo);
        }
        ProjectPlanner planner = fullHistory();
        Typist.load(planner, FIRST);
        planner.setRule(3);
        is("only the change behind it", planner.undo(), 0);
        is("only the change behind it", Shown.project(planner), Shown.project(new ProjectPlanner()));
    }

    static void p04_theNumberOfTasks() {
        says("Returns the number of tasks.");
        for (int count = 1; count <= 12; count++) {
            is(Typist.load(new ProjectPlanner(), bare(count)), count);
        }
    }

    static void p04_anErrorChangesNothingElse() {
        says("Throws `IllegalArgumentException` if the text has an error; in this case only the buffer, the error code "
            + "and the error position change");
        setupError(1, FIRST + "|!");
        setupError(2, "project 0;resource zz 9;resource yy 9;task aa 1 9 9;task bb 2 9 9 after aa;task cc |31 0 0;");
        setupError(5, bare(12) + "|task");
        setupError(4, FULL.substring(0, FULL.length() - 1) + " |k;");
    }

    static void p04_anErrorKeepsAFullHistory() {
        says("Throws `IllegalArgumentException` if the text has an error; in this case only the buffer, the error code "
            + "and the error position change");
        for (Shown.Part part : Shown.allButTexts()) {
            ProjectPlanner planner = fullHistory();
            is(errorOf(planner, FULL + "x", ProjectPlanner::load), failed(1, FULL.length()));
            is(part.of(planner), part.of(fullHistory()));
        }
    }

    // ---- 4, the texts

    static void p04_aTextOf600Bytes() {
        says("The input buffer holds at most 600 bytes.");
        is(setupErrorOf(padded(FIRST, 600)), worked(5));
        is(setupErrorOf(" ".repeat(600 - FIRST.length()) + FIRST), worked(5));
        is(setupErrorOf(" ".repeat(600)), failed(1, 600));
        is(setupErrorOf(" ".repeat(599) + "x"), failed(1, 599));
    }

    static void p04_aTokenAtTheEndOf600Bytes() {
        says("The input buffer holds at most 600 bytes.");
        String start = " ".repeat(600 - FIRST.length());
        for (int length : new int[] {599, 600}) {
            for (String end : new String[] {"project 3", "project", "project 3;resource r 1;task x 1 0 after"}) {
                is(end, setupErrorOf(" ".repeat(length - end.length()) + end), failed(1, length));
            }
        }
        is("a semicolon", setupErrorOf(start + FIRST), worked(5));
        is("a digit too many", setupErrorOf(" ".repeat(588) + "project 0001"), failed(1, 596));
        is("a letter too many", setupErrorOf(" ".repeat(591) + "abcdefghi"), failed(1, 591));
    }

    static void p04_nothingBehindTheLength() {
        says("Parses the input buffer as a setup text and empties the buffer, also if the text has an error.");
        for (int length = 0; length <= FIRST.length(); length++) {
            ProjectPlanner cut = new ProjectPlanner();
            Typist.type(cut, FIRST);
            cut.truncate(length);
            String found = Check.answer(cut::load) + " " + Shown.errors(cut);
            is("cut at " + length, found, setupErrorOf(FIRST.substring(0, length)));
        }
        ProjectPlanner digits = new ProjectPlanner();
        Typist.type(digits, "project 39");
        digits.truncate(9);
        is("a number cut", Check.answer(digits::load) + " " + Shown.errors(digits), failed(1, 9));
        ProjectPlanner letters = new ProjectPlanner();
        Typist.type(letters, "projects");
        letters.truncate(7);
        is("a word cut", Check.answer(letters::load) + " " + Shown.errors(letters), failed(1, 7));
        Typist.type(letters, LEAST + "x");
        letters.truncate(LEAST.length());
        is("a whole text", Check.answer(letters::load), 1);
    }

    static void p04_onlySpacesAndLineFeedsSeparate() {
        says("Spaces (byte 32) and line feeds (byte 10) separate tokens and have no other meaning.");
        for (int value = 0; value < 256; value++) {
            boolean separates = value == 32 || value == 10;
            is("byte " + value, setupErrorOf(LEAST + (char) value),
                separates ? worked(1) : failed(1, LEAST.length()));
            if (!Character.isDigit(value) && !(value >= 'a' && value <= 'z')) {
                is("byte " + value, setupErrorOf("project" + (char) value + "0;resource r 1;task x 1 0;"),
                    separates ? worked(1) : failed(1, 7));
            }
        }
        is("any number of them", setupErrorOf("\n\n  project  \n 0\n;resource\nr 1 ;\n task x\n\n1 0 ; \n"), worked(1));
        is("none", setupErrorOf("project0;resource r1;task x1 0;"), worked(1));
        is("they part words", setupErrorOf("pro ject 0;"), failed(1, 0));
        is("they part numbers", setupErrorOf("project 0;resource r 1\n1;"), failed(1, 23));
    }

    static void p04_theTokens() {
        says("The tokens of a text are words, numbers and semicolons.",
            "A word is a maximal run of the letters a to z.", "A number is a maximal run of decimal digits.");
        is("a run of letters is one word", setupErrorOf("projectproject 0;"), failed(1, 0));
        is("a run of digits is one number", setupErrorOf("project 00;" + ONE_UNIT.substring(10) + "task x 30 0;"),
            worked(1));
        is("a digit ends a word", setupErrorOf(ONE_UNIT + "task x1 0;"), worked(1));
        is("a letter ends a number", setupErrorOf(ONE_UNIT + "task x 1 0after;"), failed(1, ONE_UNIT.length() + 15));
        is("a capital letter is no letter", setupErrorOf(ONE_UNIT + "task xY 1 0;"), failed(1, ONE_UNIT.length() + 6));
        is("each semicolon is a token", setupErrorOf("project 0;;"), failed(1, 10));
    }

    static void p04_theEdgesOfLettersAndDigits() {
        says("A word of more than 8 letters, a number of more than 3 digits and any other byte are invalid tokens.");
        String start = ONE_UNIT + "task ";
        for (int value = 0; value < 256; value++) {
            boolean letter = value >= 97 && value <= 122;
            boolean separator = value == 32 || value == 10;
            is("as a name, byte " + value, setupErrorOf(start + (char) value + " 1 0;"),
                letter ? worked(1) : failed(1, start.length() + (separator ? 2 : 0)));
            boolean digit = value >= 48 && value <= 57;
            is("as a duration, byte " + value, setupErrorOf(start + "x " + (char) value + " 0;"),
                digit && value > 48 ? worked(1) : digit ? failed(2, start.length() + 2)
                    : separator ? failed(2, start.length() + 4) : failed(1, start.length() + 2));
        }
    }

    static void p04_wordsOf8LettersAndOf9() {
        says("A word of more than 8 letters, a number of more than 3 digits and any other byte are invalid tokens.");
        setupError(1, "|projecta 0;");
        setupError(1, "|projectaa 0;");
        setupError(3, "project 0;resource |abcdefgh 1;");
        setupError(1, "project 0;resource |abcdefghi 1;");
        setupError(1, "project 0;resource |" + "a".repeat(500));
        setupError(3, ONE_UNIT + "task |abcdefgh 1 0;");
        setupError(1, ONE_UNIT + "task |abcdefghi 1 0;");
        setupError(1, ONE_UNIT + "task a 1 0 after |abcdefghi;");
        setupError(1, "project 0;resource r 1;|resourcee q 1;");
        is("resource has 8", setupErrorOf(LEAST), worked(1));
    }

    static void p04_numbersOf3DigitsAndOf4() {
        says("A word of more than 8 letters, a number of more than 3 digits and any other byte are invalid tokens.");
        is(setupErrorOf("project 003;resource r 009;task x 030 009;"), worked(1));
        setupError(1, "project |0000;");
        setupError(1, "project |0003;");
        setupError(2, "project |999;");
        setupError(1, "project |1000;");
        setupError(1, "project |" + "0".repeat(400) + ";");
        setupError(1, "project |4294967296;");
        setupError(1, "project 0;resource r |0001;");
        setupError(1, ONE_UNIT + "task x |0001 0;");
        setupError(1, ONE_UNIT + "task x 1 |0000;");
    }

    static void p04_theGrammarOfASetup() {
        says("The grammar is as follows, with literal words in quotes:",
            "setup = \"project\" rule \";\" resource \";\" { resource \";\" } task \";\" { task \";\" }",
            "resource = \"resource\" name capacity",
            "task = \"task\" name duration demand { demand } [ \"after\" name { name } ]",
            "A task has one demand for each resource, in the order of the resources.");
        is("every token by turns", Shown.project(loaded("project 2;resource aa 7;resource bb 8;resource cc 9;"
            + "task dd 11 1 2 3;task ee 12 4 5 6 after dd;task ff 13 7 8 9 after ee dd;")),
            "2/7 8 9 /dd 11 0 1 2 3/ee 12 0 4 5 6 after 0/ff 13 0 7 8 9 after 0 after 1");
        setupError(1, "|");
        setupError(1, "|;");
        setupError(1, "|0;");
        setupError(1, "|resource r 1;");
        setupError(1, "project |;");
        setupError(1, "project |r;");
        setupError(1, "project 0 |0;");
        setupError(1, "project 0 |resource");
        setupError(1, "project 0;|project 0;");
        setupError(1, "project 0;resource |1;");
        setupError(1, "project 0;resource r|;");
        setupError(1, "project 0;resource r 1 |1;");
        setupError(1, "project 0;resource r 1 |task");
        setupError(1, ONE_UNIT + "|;");
        setupError(1, ONE_UNIT + "|project 0;");
        setupError(1, ONE_UNIT + "task |1 1 0;");
        setupError(1, ONE_UNIT + "task x |after;");
        setupError(1, ONE_UNIT + "task x 1 0 |x;");
        setupError(1, ONE_UNIT + "task x 1 0 |task y 1 0;");
        setupError(1, LEAST + "|resource q 1;");
        setupError(1, LEAST + "|;");
        setupError(1, LEAST + "|x");
    }

    static void p04_oneTo3Resources() {
        says("There are 1 to 3 resources and 1 to 12 tasks, both numbered from 0.");
        setupError(1, "project 0;|task x 1 0;");
        setupError(1, "project 0;|");
        String three = "project 0;resource a 1;resource b 2;resource c 3;";
        is(loaded("project 0;resource a 1;task x 1 0;").resourceCount(), 1);
        is(loaded("project 0;resource a 1;resource b 2;task x 1 0 0;").resourceCount(), 2);
        is(loaded(three + "task x 1 0 0 0;").resourceCount(), 3);
        is("from 0", loaded(three + "task x 1 0 0 0;").capacity(0), 1);
        is("to 2", loaded(three + "task x 1 0 0 0;").capacity(2), 3);
        setupError(5, three + "|resource d 4;task x 1 0 0 0 0;");
    }

    static void p04_oneTo12Tasks() {
        says("There are 1 to 3 resources and 1 to 12 tasks, both numbered from 0.");
        setupError(1, ONE_UNIT + "|");
        setupError(1, ONE_UNIT + "  \n |");
        for (int count = 1; count <= 12; count++) {
            ProjectPlanner planner = loaded(bare(count));
            is(planner.taskCount(), count);
            is("the last", Typist.taskName(planner, count - 1), "" + (char) ('a' + count - 1));
        }
        setupError(5, bare(12) + "|task m 1 0;");
    }

    static void p04_capacitiesOf1To9() {
        says("A resource has a name and a capacity (1 to 9 units on every day).");
        for (int units = 0; units <= 999; units++) {
            is("capacity " + units, setupErrorOf("project 0;resource r " + units + ";task x 1 0;"),
                units >= 1 && units <= 9 ? worked(1) : failed(2, 21));
        }
        ProjectPlanner planner = loaded("project 0;resource a 1;resource b 9;task x 30 1 9;");
        is("on every day", planner.usage(0, 0) + planner.usage(0, 29) + planner.usage(1, 0) + planner.usage(1, 29), 20);
    }

    static void p04_durationsOf1To30() {
        says("A task has a name, a duration (1 to 30 days), a release day (0 to 99; 0 at first) and, for each resource, "
            + "a demand (0 to 9 units), which never exceeds the capacity.");
        for (int days = 0; days <= 999; days++) {
            is("duration " + days, setupErrorOf(ONE_UNIT + "task x " + days + " 0;"),
                days >= 1 && days <= 30 ? worked(1) : failed(2, ONE_UNIT.length() + 7));
        }
    }

    static void p04_demandsOf0ToTheCapacity() {
        says("A task has a name, a duration (1 to 30 days), a release day (0 to 99; 0 at first) and, for each resource, "
            + "a demand (0 to 9 units), which never exceeds the capacity.");
        for (int capacity = 1; capacity <= 9; capacity++) {
            String start = "project 0;resource q 9;resource r " + capacity + ";task x 1 9 ";
            for (int demand = 0; demand <= 12; demand++) {
                is("demand " + demand + " of " + capacity, setupErrorOf(start + demand + ";"),
                    demand <= capacity ? worked(1) : failed(2, start.length()));
            }
            is("demand 999 of " + capacity, setupErrorOf(start + "999;"), failed(2, start.length()));
        }
        setupError(2, "project 0;resource a 1;resource b 2;resource c 3;task x 1 |2 3 4;");
        setupError(2, "project 0;resource a 1;resource b 2;resource c 3;task x 1 1 |3 4;");
        setupError(2, "project 0;resource a 1;resource b 2;resource c 3;task x 1 1 2 |4;");
    }

    static void p04_rulesOf0To3() {
        says("code 2: a number out of range in a setup text, including a demand that exceeds the capacity "
            + "(numbers in a script are not checked by the parser);");
        for (int rule = 0; rule <= 999; rule++) {
            is("rule " + rule, setupErrorOf("project " + rule + ";resource r 1;task x 1 0;"),
                rule <= 3 ? worked(1) : failed(2, 8));
        }
    }

    static void p04_namesOf1To6Letters() {
        says("A name consists of 1 to 6 letters a to z.");
        String task = ONE_UNIT + "task ";
        for (int letters = 1; letters <= 12; letters++) {
            String name = "zyxwvutsrqpo".substring(0, letters);
            is(setupErrorOf("project 0;resource " + name + " 1;task x 1 0;"),
                letters <= 6 ? worked(1) : failed(letters <= 8 ? 3 : 1, 19));
            is(setupErrorOf(task + name + " 1 0;"),
                letters <= 6 ? worked(1) : failed(letters <= 8 ? 3 : 1, task.length()));
        }
        setupError(1, task + "|1 0;");
        setupError(1, "project 0;resource |1;");
        ProjectPlanner planner = loaded(task + "azazaz 1 0;task zzzzzz 1 0;task aaaaaa 1 0;");
        is("the first and the last letter", Shown.names(planner), "azazaz zzzzzz aaaaaa");
    }

    static void p04_distinctNames() {
        says("Resource names are distinct, and task names are distinct.");
        setupError(3, "project 0;resource r 1;resource |r 1;");
        setupError(3, "project 0;resource r 1;resource q 1;resource |r 1;");
        setupError(3, "project 0;resource q 1;resource r 1;resource |r 1;");
        setupError(3, LEAST + "task |x 1 0;");
        setupError(3, bare(11) + "task |a 1 0;");
        setupError(3, bare(11) + "task |k 1 0;");
        setupError(3, ONE_UNIT + "task abcdef 1 0;task |abcdef 1 0;");
        is("alike is not the same", Shown.names(loaded(ONE_UNIT + "task abcdef 1 0;task abcdeg 1 0;task abcde 1 0;"
            + "task bbcdef 1 0;task a 1 0;task aa 1 0;task ba 1 0;task ab 1 0;")), "abcdef abcdeg abcde bbcdef a aa ba ab");
    }

    static void p04_aNameOfBothKinds() {
        says("A resource and a task may have the same name, and a word of the grammar can be a name wherever the "
            + "grammar requires a name.");
        is(setupErrorOf("project 0;resource a 1;resource b 1;task b 1 0 0;task a 1 0 0 after b;"), worked(2));
        setupError(3, "project 0;resource a 1;task b 1 0 after |a;");
    }

    static void p04_wordsOfTheGrammarAsNames() {
        says("A resource and a task may have the same name, and a word of the grammar can be a name wherever the "
            + "grammar requires a name.");
        for (String word : new String[] {"task", "after", "demand", "link", "unlink", "rule", "drop"}) {
            is(word, Shown.names(loaded("project 0;resource " + word + " 1;task " + word + " 1 0;task x 1 0 after " + word
                + ";")), word + " x");
        }
        for (String word : new String[] {"project", "resource", "duration", "release", "capacity"}) {
            setupError(3, "project 0;resource |" + word + " 1;");
            setupError(3, ONE_UNIT + "task |" + word + " 1 0;");
            setupError(3, LEAST + "task y 1 0 after |" + word + ";");
        }
        is("after after after", setupErrorOf(ONE_UNIT + "task after 1 0;task task 1 0 after after;"
            + "task x 1 0 after after task;"), worked(3));
        setupError(4, ONE_UNIT + "task after 1 0;task task 1 0 after after |after;");
    }

    static void p04_afterNamesEarlierTasks() {
        says("The names behind \"after\" are those of earlier tasks, from which links lead to the task.");
        String abc = ONE_UNIT + "task a 1 0;task b 1 0;task c 1 0 after ";
        is(loaded(abc + "a;").hasLink(0, 2), true);
        is("not the other way", loaded(abc + "a;").hasLink(2, 0), false);
        is("two", loaded(abc + "b a;").linkCount(), 2);
        is("as many as there are", loaded(dense(12)).linkCount(), 66);
        is("as many as there are", loaded(dense(12)).predecessorCount(11), 11);
        setupError(3, ONE_UNIT + "task a 1 0 after |a;");
        setupError(3, ONE_UNIT + "task a 1 0 after |b;task b 1 0;");
        setupError(3, abc + "a b |c;");
        setupError(3, abc + "a |d;task d 1 0;");
        setupError(1, abc + "|;");
        setupError(1, abc + "|1;");
        setupError(1, abc + "|");
        setupError(1, abc + "a |1;");
        setupError(1, abc + "a|");
    }

    // ---- 4, 5, 6: the errors

    static void p05_code1() {
        says("code 1: an invalid token, a token that the grammar does not allow at this place (this includes a missing "
            + "and an excess demand), or an unexpected end of the text;");
        setupError(1, TWO + "task a 1 1 1|#");
        setupError(1, TWO + "task a 1 1 1 |task b 1 1 1;");
        setupError(1, TWO + "task a 1 1 1|");
    }

    static void p05_missingAndExcessDemands() {
        says("code 1: an invalid token, a token that the grammar does not allow at this place (this includes a missing "
            + "and an excess demand), or an unexpected end of the text;");
        setupError(1, ONE_UNIT + "task a 1|;");
        setupError(1, ONE_UNIT + "task a 1 |after b;");
        setupError(1, ONE_UNIT + "task a 1 1 |1;");
        setupError(1, ONE_UNIT + "task a 1 1 |9;");
        setupError(1, TWO + "task a 1 1|;");
        setupError(1, TWO + "task a 1 1 |after b;");
        setupError(1, TWO + "task a 1 1 1 |0;");
        setupError(1, TWO + "task a 1 1 1 |999 after b;");
        setupError(1, "project 0;resource a 1;resource b 1;resource c 1;task x 1 1 1|;");
        setupError(1, "project 0;resource a 1;resource b 1;resource c 1;task x 1 1 1 1 |1;");
    }

    static void p05_code2() {
        says("code 2: a number out of range in a setup text, including a demand that exceeds the capacity "
            + "(numbers in a script are not checked by the parser);");
        setupError(2, "project |4;");
        setupError(2, "project 0;resource r |0;");
        setupError(2, "project 0;resource r |10;");
        setupError(2, TWO + "task a |0 1 1;");
        setupError(2, TWO + "task a |31 1 1;");
        setupError(2, TWO + "task a 1 |4 1;");
        setupError(2, TWO + "task a 1 1 |2;");
        for (String command : new String[] {"duration dig ", "demand dig crew ", "release dig ", "capacity crew ", "rule "}) {
            is(command, scriptErrorOf(command + "999;"), worked(0));
        }
    }

    static void p05_code3() {
        says("code 3: a name of more than 6 letters, a new name that an earlier resource or task of the same kind has, "
            + "or the name of a resource or task that does not exist;");
        setupError(3, "project 0;resource |abcdefg 1;");
        setupError(3, ONE_UNIT + "task |abcdefg 1 0;");
        setupError(3, LEAST + "task y 1 0 after |abcdefg;");
        setupError(3, "project 0;resource a 1;resource |a 1;");
        setupError(3, ONE_UNIT + "task a 1 0;task |a 1 0;");
        setupError(3, LEAST + "task y 1 0 after |z;");
        scriptError(3, "drop |x;");
        scriptError(3, "drop |diggers;");
        scriptError(3, "drop |crew;");
        scriptError(3, "capacity |dig 1;");
        scriptError(3, "demand dig |wall 1;");
    }

    static void p05_code4() {
        says("code 4: a task that is listed twice behind the same \"after\";");
        setupError(4, LEAST + "task y 1 0 after x |x;");
        setupError(4, LEAST + "task y 1 0 after x|\nx".replace("|\n", "\n|"));
        setupError(4, ONE_UNIT + "task a 1 0;task b 1 0;task c 1 0 after b a |b;");
        setupError(4, ONE_UNIT + "task a 1 0;task b 1 0;task c 1 0 after a b |b;");
        String eleven = bare(11) + "task l 1 0 after a b c d e f g h i j k";
        is("all of them once", setupErrorOf(eleven + ";"), worked(12));
        setupError(4, eleven + " |a;");
        setupError(4, eleven + " |k;");
        is("behind another after", setupErrorOf(LEAST + "task y 1 0 after x;task z 1 0 after x;"), worked(3));
        scriptError(1, "link dig wall |wall;");
    }

    static void p05_code5() {
        says("code 5: the word \"resource\" of a 4th resource, the word \"task\" of a 13th task, or the first word of a "
            + "31st command.");
        setupError(5, "project 0;resource a 1;resource b 1;resource c 1;|resource");
        setupError(5, "project 0;resource a 1;resource b 1;resource c 1;|resource a 10;");
        setupError(5, bare(12) + "|task");
        setupError(5, bare(12) + "|task a 31;");
        for (String word : new String[] {"duration", "demand", "release", "link", "unlink", "capacity", "rule", "drop"}) {
            scriptError(5, "rule 0;".repeat(30) + "|" + word);
        }
        is("30 commands", scriptErrorOf("rule 0;".repeat(30)), worked(30));
    }

    static void p05_theLowestOfSeveral() {
        says("If several errors apply to the same token, the lowest code is reported:");
        setupError(1, "project |9999;");
        setupError(1, ONE_UNIT + "task a 1 1 |10;");
        setupError(1, LEAST + "task y 1 0 after |yyyyyyyyy;");
        setupError(1, LEAST + "|resource r 1;");
        setupError(1, "project 0;resource a 1;resource b 1;resource c 1;|resources d 1;");
        setupError(1, bare(12) + "|x");
        setupError(1, bare(12) + "|resource");
        setupError(1, bare(12) + "|1");
        scriptError(1, "rule 0;".repeat(30) + "|dig");
        scriptError(1, "rule 0;".repeat(30) + "|1");
        scriptError(1, "rule 0;".repeat(30) + "|;");
        scriptError(1, "rule 0;".repeat(30) + "|!");
        scriptError(1, "rule 0;".repeat(30) + "|task");
    }

    static void p05_zeroWithoutAnError() {
        says("Returns the error code of the latest call of load() or runScript().",
            "Returns 1 to 5; 0 if that text had no error or there was no such call.");
        is("no call", Shown.errors(new ProjectPlanner()), "error 0 at -1");
        ProjectPlanner planner = new ProjectPlanner();
        is(errorOf(planner, "project 4", ProjectPlanner::load), failed(2, 8));
        is("load", errorOf(planner, FIRST, ProjectPlanner::load), worked(5));
        is(errorOf(planner, "drop a", ProjectPlanner::runScript), failed(3, 5));
        is("runScript", errorOf(planner, "", ProjectPlanner::runScript), worked(0));
        is(errorOf(planner, "", ProjectPlanner::load), failed(1, 0));
        is("runScript behind load", errorOf(planner, "rule 1;", ProjectPlanner::runScript), worked(1));
        is(errorOf(planner, "rule 1", ProjectPlanner::runScript), failed(1, 6));
        is("load behind runScript", errorOf(planner, LEAST, ProjectPlanner::load), worked(1));
        is("a command that is not possible is no error", errorOf(planner, "rule 9;", ProjectPlanner::runScript), worked(0));
        question(Boundary::eventful, ProjectPlanner::errorCode, 3);
        question(ProjectPlanner::new, ProjectPlanner::errorCode, 0);
    }

    static void p05_onlyTheLatestCall() {
        says("Returns the error code of the latest call of load() or runScript().");
        ProjectPlanner planner = new ProjectPlanner();
        List<String> codes = new ArrayList<>();
        for (String text : new String[] {bare(12) + "task", LEAST + "task y 1 0 after x x;", "project 0;resource abcdefg 1;",
            "project 4;", "x"}) {
            Typist.type(planner, text);
            Check.answer(planner::load);
            codes.add(planner.errorCode() + "");
        }
        is(codes.toString(), "[5, 4, 3, 2, 1]");
    }

    static void p05_otherCallsLeaveIt() {
        says("Returns the error code of the latest call of load() or runScript().");
        ProjectPlanner planner = eventful();
        planner.setRule(2);
        planner.undo();
        planner.save(0);
        planner.restore(1);
        planner.writeSchedule();
        planner.truncate(0);
        Check.answer(planner::undo);
        Check.answer(planner::findTask);
        is(Shown.errors(planner), "error 3 at 12");
    }

    static void p06_theFirstByteOfTheToken() {
        says("The error position is the index of the first byte of this token, or the length of the text if the text "
            + "ends too early.");
        setupError(1, "|x");
        setupError(1, " \n|xyz");
        setupError(2, "project \n  |004;");
        setupError(3, "project 0;resource\n\n|abcdefgh 1;");
        setupError(1, " ".repeat(599) + "|x");
        setupError(1, " ".repeat(580) + "|" + "x".repeat(20));
        setupError(1, "project 0;resource |abcdefghijklmnopqrstuvwxyz 1;");
    }

    static void p06_theLengthIfItEndsTooEarly() {
        says("The error position is the index of the first byte of this token, or the length of the text if the text "
            + "ends too early.");
        setupError(1, "|");
        setupError(1, "  |");
        setupError(1, "project|");
        setupError(1, "project 0 \n|");
        setupError(1, " ".repeat(600) + "|");
        setupError(1, padded("project 0;", 600) + "|");
        scriptError(1, "drop|");
        scriptError(1, "drop dig|");
        scriptError(1, "drop dig \n |");
        scriptError(1, padded("drop dig", 600) + "|");
    }

    static void p06_theFirstTokenWithAnError() {
        says("A text is parsed from left to right.",
            "The first token with an error determines the error code and the error position.");
        setupError(2, "project |4;resource abcdefg 0;!");
        setupError(3, "project 3;resource |abcdefg 0;!");
        setupError(1, "project 3 |resource abcdefg 0;");
        setupError(4, LEAST + "task y 1 0 after x |x x z;task");
        scriptError(3, "drop |x;drop;!");
        scriptError(1, "drop dig|!drop x;");
    }

    static void p06_noneWithoutAnError() {
        says("Returns the error position of the latest call of load() or runScript().",
            "Returns the position in the text; NONE if that text had no error or there was no such call.",
            "`NONE = -1`: Returned where there is no task, no resource or no cycle.");
        is(ProjectPlanner.NONE, -1);
        is("no call", new ProjectPlanner().errorPosition(), ProjectPlanner.NONE);
        is("load", loaded(LEAST).errorPosition(), ProjectPlanner.NONE);
        ProjectPlanner planner = eventful();
        is("runScript", Typist.script(planner, "") + planner.errorPosition(), ProjectPlanner.NONE);
        is("0 is a position", setupErrorOf("x"), failed(1, 0));
        is("600 is a position", setupErrorOf(" ".repeat(600)), failed(1, 600));
        question(Boundary::eventful, ProjectPlanner::errorPosition, 12);
        question(ProjectPlanner::new, ProjectPlanner::errorPosition, -1);
    }

    static void p06_everyEndOfAText() {
        says("The error position is the index of the first byte of this token, or the length of the text if the text "
            + "ends too early.");
        String setup = "project 2;resource ab 3;resource a 1;task after 12 3 1;\ntask b 3 0 1 after after;"
            + "task task 30 1 0 after b after;";
        String script = "duration dig 12;demand wall crew 3;release roof 9;\nlink roof paint;unlink dig wall;"
            + "capacity crew 9;rule 3;drop pipe;";
        for (int length = 0; length <= setup.length(); length++) {
            sameAsTheModel(setup.substring(0, length));
        }
        for (int length = 0; length <= script.length(); length++) {
            sameAsTheModel(script.substring(0, length));
        }
    }

    static void p06_everyByteChanged() {
        says("The first token with an error determines the error code and the error position.");
        String setup = "project 2;resource ab 3;task after 12 3;task b 3 0 after after;";
        String script = "duration dig 12;demand wall crew 3;link roof paint;capacity crew 9;rule 3;drop pipe;";
        for (char value : " \n;0159aptz`{/:A\u00e1\u0000".toCharArray()) {
            for (int place = 0; place < setup.length(); place++) {
                sameAsTheModel(setup.substring(0, place) + value + setup.substring(place + 1));
            }
            for (int place = 0; place < script.length(); place++) {
                sameAsTheModel(script.substring(0, place) + value + script.substring(place + 1));
            }
        }
    }

    private static void sameAsTheModel(String text) {
        PlannerModel model = new PlannerModel();
        for (int index = 0; index < text.length(); index += 20) {
            String part = padded(text.substring(index, Math.min(index + 20, text.length())), 20);
            int[] words = new int[5];
            for (int place = 0; place < 20; place++) {
                words[place / 4] = words[place / 4] << 8 | part.charAt(place);
            }
            model.append(words[0], words[1], words[2], words[3], words[4]);
        }
        model.truncate(text.length());
        boolean setup = text.startsWith("p");
        ProjectPlanner planner = new ProjectPlanner();
        String due = Check.answer(setup ? model::load : model::runScript) + " error " + model.errorCode() + " at "
            + model.errorPosition();
        is(text, errorOf(planner, text, setup ? ProjectPlanner::load : ProjectPlanner::runScript), due);
        is("tasks after " + text, planner.taskCount(), model.taskCount());
    }
}
