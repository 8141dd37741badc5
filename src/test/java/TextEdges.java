/** Edges of the text, and of the promises 2, append, 3, clearText, 4, errorPosition, and 5, load. */
final class TextEdges {
    private static final String DIGITS = "0123456789";
    private static final String COMMANDS = "dsfxh";

    /** Beginnings of texts, the characters that may follow, and whether a command ends with these. */
    private static final String[][] NEXT = {
        {"", "M", "board"}, {"M", COMMANDS, ""},
        {"Md", "012", ""}, {"Md0", DIGITS, ""}, {"Md1", DIGITS, ""}, {"Md2", "012345", ""},
        {"Md00", "123456789", ""}, {"Md01", DIGITS, ""}, {"Md09", DIGITS, ""}, {"Md10", DIGITS, ""}, {"Md19", DIGITS, ""},
        {"Md20", DIGITS, ""}, {"Md24", DIGITS, ""}, {"Md25", "012345", ""},
        {"Md001", "123", ""}, {"Md255", "123", ""}, {"Md0011", "01", ""}, {"Md0013", "01", ""},
        {"Md00110", DIGITS, ""}, {"Md00111", "01", ""},
        {"Md001100", "012345", ""}, {"Md001111", "012345", ""},
        {"Md0011000", DIGITS, ""}, {"Md0011001", DIGITS, ""}, {"Md0011004", DIGITS, ""}, {"Md0011005", "0", ""},
        {"Md00110000", "123456789", "board"}, {"Md00110001", DIGITS, "board"}, {"Md00110009", DIGITS, "board"},
        {"Md00110010", DIGITS, "board"}, {"Md00110049", DIGITS, "board"}, {"Md00110050", "0", "board"},
        {"Md001100001", COMMANDS, ""},
        {"Ms", "01234567", ""}, {"Ms0", "01", ""}, {"Ms7", "01", ""}, {"Ms00", DIGITS, ""}, {"Ms01", "01", ""},
        {"Ms000", "012", ""}, {"Ms711", "012", ""}, {"Ms0000", DIGITS, ""}, {"Ms0001", DIGITS, ""}, {"Ms0002", "012345", ""},
        {"Ms00000", DIGITS, ""}, {"Ms00001", DIGITS, ""}, {"Ms00019", DIGITS, ""}, {"Ms00024", DIGITS, ""},
        {"Ms00025", "012345", ""}, {"Ms000000", "+-", "board"}, {"Ms711255", "+-", "board"}, {"Ms000000+", COMMANDS, ""},
        {"Mf", "012345", ""}, {"Mf0", "01234567", ""}, {"Mf5", "01234567", ""}, {"Mf00", "01", ""}, {"Mf57", "01", ""},
        {"Mf000", DIGITS, "board"}, {"Mf001", "01", "board"}, {"Mf0000", COMMANDS, ""},
        {"Mx", "01", ""}, {"Mx0", DIGITS, ""}, {"Mx1", "01", ""}, {"Mx00", "01", ""}, {"Mx11", "01", ""},
        {"Mx000", DIGITS, ""}, {"Mx001", "01", ""}, {"Mx0000", "+-", "board"}, {"Mx1111", "+-", "board"},
        {"Mx0000-", COMMANDS, ""},
        {"Mh", DIGITS, ""}, {"Mh0", "123456789", "board"}, {"Mh1", DIGITS, "board"}, {"Mh9", DIGITS, "board"},
        {"Mh99", COMMANDS, ""}};

    private TextEdges() {
    }

    static void run() {
        roomFor120Characters();
        appendsCharacters();
        appendAnswersTheLength();
        appendNeedsACharacter();
        appendNeedsRoom();
        clearTextAnswersTheLength();
        eachCharacterAtEachPlace();
        anyNumberOfCommands();
        noBlanks();
        theFirstFromTheLeft();
        aTextThatEndsTooSoon();
        errorPositionOfABoard();
        cornersAndFindersInAText();
        lostDogsInAText();
        photosAndClosedStreets();
        sightingsAtTheHourOfNow();
        commandsAreLeftOut();
        loadMakesAllAsNew();
        loadForgetsStatesAndSlots();
        loadKeepsTheText();
        loadAnswersHowMany();
        loadNeedsABoard();
    }

    private static DogBoard written(String text) {
        DogBoard b = new DogBoard();
        Check.write(b, text);
        return b;
    }

    private static void roomFor120Characters() {
        Check.sentence(0, "The object has a text buffer of at most 120 characters.");
        DogBoard b = new DogBoard();
        for (int length = 1; length <= 120; length++) {
            Check.due("append", () -> b.append('M'), length);
        }
        Check.due("a 121st", () -> b.append('M'), Edges.STATE);
        Check.due("the length", b.clearText(), 120);
        Check.due("a first once more", () -> b.append('M'), 1);
    }

    private static void appendsCharacters() {
        Check.sentence(2, "Appends a character to the text buffer.");
        Check.due("M and h", written("Mh").errorPosition(), 2);
        Check.due("h and M", written("hM").errorPosition(), 0);
        Check.sentence(2, "`c`: character code, 0 to 255");
        for (int c = 0; c <= 255; c++) {
            int code = c;
            Check.due("append(" + c + ")", () -> new DogBoard().append(code), 1);
        }
    }

    private static void appendAnswersTheLength() {
        Check.sentence(2, "Returns the new length of the text.");
        DogBoard b = new DogBoard();
        Check.due("append(0)", () -> b.append(0), 1);
        Check.due("append(255)", () -> b.append(255), 2);
        b.hours(1);
        b.undo();
        Check.due("append behind other calls", () -> b.append(32), 3);
    }

    private static void appendNeedsACharacter() {
        Check.sentence(2, "Throws `IllegalArgumentException` if c is out of range");
        for (int c : new int[] {Integer.MIN_VALUE, -1, 256, 'M' + 256, 'M' + 65536, Integer.MAX_VALUE}) {
            Edges.refuses("append(" + c + ")", Edges::busy, b -> b.append(c), Edges.ARGUMENT);
            Edges.refuses("append(" + c + ") to 120", Edges::withFullText, b -> b.append(c), Edges.ARGUMENT);
        }
    }

    private static void appendNeedsRoom() {
        Check.sentence(2, "Throws `IllegalStateException` if the text already has 120 characters");
        for (int c : new int[] {0, 'M', 255}) {
            Edges.refuses("append(" + c + ") to 120", Edges::withFullText, b -> b.append(c), Edges.STATE);
        }
        DogBoard b = written("M".repeat(119));
        Check.due("append to 119", () -> b.append(0), 120);
        Check.due("append to 120", () -> b.append(0), Edges.STATE);
    }

    private static void clearTextAnswersTheLength() {
        Check.sentence(3, "Returns the previous length of the text.");
        for (int length : new int[] {0, 1, 119, 120}) {
            Check.due("clearText of " + length, written("M".repeat(length)).clearText(), length);
        }
        Check.sentence(3, "Empties the text buffer.");
        DogBoard b = written("Mh07");
        b.clearText();
        Check.due("clearText again", b.clearText(), 0);
        Check.due("the error position", b.errorPosition(), 0);
        Check.due("load", () -> b.load(), Edges.STATE);
        Check.due("append", () -> b.append('M'), 1);
        Check.due("nothing of the text before is left", b.errorPosition(), -1);
    }

    private static void eachCharacterAtEachPlace() {
        Check.sentence(0, "The error position is the index of the first character that these rules do not allow at its "
                + "place (a digit is not allowed if no number that is allowed begins with it and those before it)");
        for (String[] next : NEXT) {
            int place = next[0].length();
            int whole = next[2].isEmpty() ? place + 1 : -1;
            for (int c = 0; c <= 255; c++) {
                DogBoard b = written(next[0]);
                b.append(c);
                boolean isAllowed = next[1].indexOf(c) >= 0;
                Check.due("errorPosition of " + next[0] + " and the character " + c, b.errorPosition(),
                        isAllowed ? whole : place);
            }
        }
    }

    private static void anyNumberOfCommands() {
        Check.sentence(0, "A board as a text is the letter M, and then any number of commands");
        Check.due("none", written("M").errorPosition(), -1);
        Check.due("none, loaded", written("M").load(), 0);
        String most = "M" + "h01".repeat(38) + "f0000";
        Check.due("its length", most.length(), 120);
        DogBoard b = written(most);
        Check.due("39 in 120 characters", b.errorPosition(), -1);
        Check.due("39 in 120 characters, loaded", b.load(), 1);
        Check.due("the hours of all of them", b.about(3), 38);
        DogBoard dogs = written("M" + "d255311500".repeat(11) + "f57110");
        Check.due("a text of 117 with an error at its end", dogs.errorPosition(), 116);
        DogBoard cut = written("M" + "d255311500".repeat(11) + "d25531150");
        Check.due("120 characters, the last command lacks one more", cut.errorPosition(), 120);
    }

    private static void noBlanks() {
        Check.sentence(0, "There are no blanks.");
        String text = "Md001100001s000000+f0000x0001-h01";
        Check.due("without blanks", written(text).errorPosition(), -1);
        for (int i = 0; i <= text.length(); i++) {
            String blank = text.substring(0, i) + " " + text.substring(i);
            Check.due("a blank at " + i, written(blank).errorPosition(), i);
        }
        Check.due("a line's end", written("Mh01\n").errorPosition(), 4);
    }

    private static void theFirstFromTheLeft() {
        Check.sentence(0, "The text is read from left to right.");
        Check.due("two errors", written("Mh00x9").errorPosition(), 3);
        Check.due("an error, and it ends too soon", written("MMh0").errorPosition(), 1);
        DogBoard b = written("Md001100001d001100002h24f1000f0000");
        Check.due("commands in their order", () -> b.load(), 0);
        Check.due("the second dog is the second", b.dogOf(1, 4), 7);
    }

    private static void aTextThatEndsTooSoon() {
        Check.sentence(0, "if the text ends too soon, it is the length of the text");
        Check.due("nothing", written("").errorPosition(), 0);
        for (String command : new String[] {"d255311500", "s711255-", "f5711", "x1111+", "h99"}) {
            for (int length = 1; length < command.length(); length++) {
                String text = "M" + command.substring(0, length);
                Check.due(text, written(text).errorPosition(), text.length());
                Check.due(text + " behind another", written("Mh01" + command.substring(0, length)).errorPosition(),
                        text.length() + 3);
            }
            Check.due("M" + command, written("M" + command).errorPosition(), -1);
        }
    }

    private static void errorPositionOfABoard() {
        Check.sentence(4, "Returns the error position of the text; NONE if it is a board.");
        Edges.onlyTells("of a board", Edges::busy, b -> b.errorPosition(), -1);
        Edges.onlyTells("of no text", Edges::fresh, b -> b.errorPosition(), 0);
        Edges.onlyTells("of a full text", Edges::withFullText, b -> b.errorPosition(), 15);
        Check.sentence(4, "Checks the text.");
        DogBoard b = written("Mh0");
        Check.due("too short", b.errorPosition(), 3);
        b.append('1');
        Check.due("long enough", b.errorPosition(), -1);
        b.append('1');
        Check.due("too long", b.errorPosition(), 4);
    }

    private static void cornersAndFindersInAText() {
        Check.sentence(0, "a corner is two digits (00 to 11), marks three digits (000 to 255), a finder a digit (0 to 7), a "
                + "dog a digit (0 to 5)");
        DogBoard b = written("Md255311500d001100001s711255+s000000-f1711f0000");
        Check.due("load", () -> b.load(), 0);
        Check.due("the most: marks", b.dogOf(0, 0), 255);
        Check.due("the most: pace", b.dogOf(0, 1), 3);
        Check.due("the most: corner", b.dogOf(0, 2), 11);
        Check.due("the most: reward", b.dogOf(0, 4), 500);
        Check.due("the least: marks", b.dogOf(1, 0), 1);
        Check.due("the least: pace", b.dogOf(1, 1), 1);
        Check.due("the least: corner", b.dogOf(1, 2), 0);
        Check.due("the least: reward", b.dogOf(1, 4), 1);
        int[][] seen = {{7, 11, 0, 255, 1}, {0, 0, 0, 0, 0}};
        for (int s = 0; s < 2; s++) {
            for (int what = 0; what < 5; what++) {
                Check.due("the sighting " + s + ", " + what, b.sightingOf(s, what), seen[s][what]);
            }
        }
        Check.due("found by 7", b.dogOf(1, 9), 7);
        Check.due("found at 11", b.dogOf(1, 8), 11);
        Check.due("found by 0", b.dogOf(0, 9), 0);
        Check.due("found at 0", b.dogOf(0, 8), 0);
        DogBoard six = written("M" + "d001100001".repeat(6) + "f5000");
        Check.due("the dog 5", () -> six.load(), 0);
        Check.due("the dog 5 is found", six.dogOf(5, 5), 0);
    }

    private static void lostDogsInAText() {
        Check.sentence(0, "d, marks (001 to 255), a digit for a pace (1 to 3), a corner, and three digits for coins (001 to "
                + "500): lose()");
        String[] texts = {"Md001100001", "Md255311500", "Md128209100", "Md010110010", "Md099303499"};
        int[][] dogs = {{1, 1, 0, 0, 1}, {255, 3, 11, 0, 500}, {128, 2, 9, 0, 100}, {10, 1, 10, 0, 10}, {99, 3, 3, 0, 499}};
        for (int i = 0; i < texts.length; i++) {
            DogBoard b = written(texts[i]);
            Check.due("load of " + texts[i], () -> b.load(), 0);
            for (int what = 0; what < 5; what++) {
                Check.due("its dog, " + what, b.dogOf(0, what), dogs[i][what]);
            }
            Check.due("it is missing", b.dogOf(0, 5), 1);
            Check.due("its reward is paid", b.about(4), dogs[i][4]);
        }
        String[] wrong = {"Md000100001", "Md256100001", "Md001000001", "Md001400001", "Md001112001", "Md001100000",
            "Md001100501"};
        int[] errors = {4, 4, 5, 5, 7, 10, 10};
        for (int i = 0; i < wrong.length; i++) {
            Check.due("errorPosition of " + wrong[i], written(wrong[i]).errorPosition(), errors[i]);
        }
    }

    private static void photosAndClosedStreets() {
        Check.sentence(0, "s, a finder, a corner, marks, and + or - for a photo: sight(), at the hour of now; f, a dog, a "
                + "finder, and a corner: find(); x, two corners, and + or -: close(), closed or not; h and two digits "
                + "(01 to 99): hours()");
        DogBoard b = written("Mx0001+x0102+x0001-x0711+s000000+s000000-h01h99");
        Check.due("load", () -> b.load(), 0);
        Check.due("closed streets", b.about(10), 2);
        Check.due("closed, and opened", b.apart(0, 1, 0), 1);
        Check.due("closed", b.apart(1, 2, 0), 3);
        Check.due("with a photo", b.sightingOf(0, 4), 1);
        Check.due("without one", b.sightingOf(1, 4), 0);
        Check.due("hours", b.about(3), 100);
    }

    private static void sightingsAtTheHourOfNow() {
        Check.sentence(0, "sight(), at the hour of now");
        DogBoard b = written("Ms000000+h07s000000+h01s000000+");
        b.load();
        Check.due("at first", b.sightingOf(0, 2), 0);
        Check.due("behind seven hours", b.sightingOf(1, 2), 7);
        Check.due("an hour later", b.sightingOf(2, 2), 8);
    }

    private static void commandsAreLeftOut() {
        Check.sentence(0, "Commands that would throw an exception are left out.");
        String[] texts = {"Mf0000", "Mx0000+", "Mx0002-", "Mx0304+", "Mx0005+", "Md001100001f1000",
            "Md001100001f0000f0711", "M" + "d001100001".repeat(7)};
        for (String text : texts) {
            DogBoard b = written(text + "h01");
            Check.due("load of " + text, () -> b.load(), 1);
            Check.due("the hour behind it", b.about(3), 1);
        }
        DogBoard first = written("Mf0000d001100001f0000f0000");
        Check.due("ahead of the loss, and found twice", () -> first.load(), 2);
        Check.due("found once", first.about(5), 1);
    }

    private static void loadMakesAllAsNew() {
        Check.sentence(5, "Makes everything as in a new object, and then does the commands of the text.");
        DogBoard b = Edges.busy();
        Check.due("load", () -> b.load(), 0);
        DogBoard same = new DogBoard();
        same.lose(15, 3, 5, 99);
        same.hours(7);
        Check.same("as in a new object", Check.stateOf(b), Check.stateOf(same));
        DogBoard settings = Edges.busy();
        settings.load();
        Check.due("growth", () -> settings.set(0, 0), 5);
        Check.due("unlike marks", () -> settings.set(1, 0), 2);
        DogBoard empty = Edges.busy();
        empty.clearText();
        empty.append('M');
        Check.due("load of no commands", () -> empty.load(), 0);
        Check.same("all is new", Check.stateOf(empty), Check.stateOf(new DogBoard()));
        DogBoard crowd = written("Md001111001");
        for (int d = 0; d < 6; d++) {
            crowd.lose(2, 1, 7, 500);
        }
        crowd.load();
        Check.due("only the dog of the text is watched for", () -> crowd.watch(), 11);
        for (int d = 1; d < 6; d++) {
            int gone = d;
            Check.due("the dog " + d + " of before", () -> crowd.canBe(gone), Edges.BOUNDS);
            Check.due("the dog " + d + " of before, in a script", () -> crowd.runScript(1, 600700 + 10_000 * gone), 0);
            Check.due("its reward, in a script", () -> crowd.runScript(1, 800000 + 10_000 * gone), 0);
        }
        Check.due("the dog of the text, in a script", () -> crowd.runScript(1, 601100), -1);
    }

    private static void loadForgetsStatesAndSlots() {
        Check.sentence(5, "Behind it no state is remembered, and both save slots are empty.");
        for (int slot = 0; slot <= 1; slot++) {
            DogBoard b = Edges.busy();
            int s = slot;
            b.load();
            Check.due("undo", () -> b.undo(), Edges.STATE);
            Check.due("restore(" + s + ")", () -> b.restore(s), Edges.STATE);
            b.hours(1);
            Check.due("undo of one action", () -> b.undo(), 0);
            b.save(s);
            Check.due("the other slot is still empty", () -> b.restore(1 - s), Edges.STATE);
            Check.due("restore(" + s + ") when it is filled again", () -> b.restore(s), 7);
        }
    }

    private static void loadKeepsTheText() {
        Check.sentence(5, "Keeps the text, also if it throws the exception.");
        DogBoard b = written("Mh07");
        b.load();
        Check.due("loaded again", () -> b.load(), 0);
        Check.due("the length", b.clearText(), 4);
        DogBoard wrong = written("Mh0");
        Check.due("no board", () -> wrong.load(), Edges.STATE);
        Check.due("one more character", () -> wrong.append('7'), 4);
        Check.due("a board", () -> wrong.load(), 0);
        Check.due("the hour", wrong.about(3), 7);
    }

    private static void loadAnswersHowMany() {
        Check.sentence(5, "Returns the number of commands that are left out.");
        Check.due("none of none", () -> written("M").load(), 0);
        Check.due("none of two", () -> written("Mh01h01").load(), 0);
        Check.due("all of 23", () -> written("M" + "f0000".repeat(23)).load(), 23);
        Check.due("again the same", () -> {
            DogBoard b = written("Md001100001d001100001f0000f0000");
            b.load();
            return b.load();
        }, 1);
    }

    private static void loadNeedsABoard() {
        Check.sentence(5, "Throws `IllegalStateException` if the text is not a board");
        Edges.refuses("load of no text", Edges::fresh, b -> b.load(), Edges.STATE);
        Edges.refuses("load of a full text", Edges::withFullText, b -> b.load(), Edges.STATE);
        for (String more : new String[] {"M", " ", "h", "h0", "h00", "d0012116", "x010", "s"}) {
            Edges.refuses("load with " + more + " behind a board", () -> {
                DogBoard b = Edges.busy();
                Check.write(b, more);
                return b;
            }, b -> b.load(), Edges.STATE);
        }
        Check.due("load of a board", () -> Edges.busy().load(), 0);
    }
}
