/** Promises 2 to 5: append, clearText, errorPosition, load. */
public final class TextTest {
    public static void main(String[] args) {
        appends();
        clears();
        allowsBoards();
        tellsErrors();
        tellsEachPlace();
        loads();
        leavesOut();
        loadForgets();
        loadRefuses();
        Check.end("TextTest");
    }

    private static void appends() {
        DogBoard b = new DogBoard();
        Check.due("append(0)", () -> b.append(0), 1);
        Check.due("append(255)", () -> b.append(255), 2);
        Check.due("append(-1)", () -> b.append(-1), Check.ARGUMENT);
        Check.due("append(256)", () -> b.append(256), Check.ARGUMENT);
        Check.due("append(min)", () -> b.append(Integer.MIN_VALUE), Check.ARGUMENT);
        for (int length = 3; length <= 120; length++) {
            Check.due("append to " + length, b.append('M'), length);
        }
        Check.due("append to a full text", () -> b.append('M'), Check.STATE);
        Check.due("append out of range to a full text", () -> b.append(256), Check.ARGUMENT);
        Check.due("the length of a full text", b.clearText(), 120);
        Check.due("append behind clearText", () -> b.append('M'), 1);
    }

    private static void clears() {
        DogBoard b = new DogBoard();
        Check.due("clearText of nothing", b.clearText(), 0);
        Check.write(b, "Mh01");
        Check.due("clearText", b.clearText(), 4);
        Check.due("clearText again", b.clearText(), 0);
        Check.due("the error in an empty text", b.errorPosition(), 0);
    }

    private static void error(String text, int want) {
        DogBoard b = new DogBoard();
        Check.write(b, text);
        Check.due("errorPosition of " + text, b.errorPosition(), want);
        Check.due("errorPosition of " + text + " again", b.errorPosition(), want);
        Check.due("load of " + text, () -> b.load() < 0 ? 1 : 0, want == DogBoard.NONE ? 0 : Check.STATE);
    }

    private static void allowsBoards() {
        error("M", -1);
        error("Md001100001", -1);
        error("Md255311500", -1);
        error("Ms000000-", -1);
        error("Ms711255+", -1);
        error("Mf0000", -1);
        error("Mf5711", -1);
        error("Mx0000+", -1);
        error("Mx1111-", -1);
        error("Mh01", -1);
        error("Mh99", -1);
        error("Mh10h20x0001+f0000", -1);
        error("M" + "h01".repeat(39), -1);
        error("M" + "Mx0011+".repeat(19).replace("M", ""), -1);
    }

    private static void tellsErrors() {
        error("", 0);
        error("m", 0);
        error("h01", 0);
        error("MM", 1);
        error("M ", 1);
        error("Mh01 ", 4);
        error("Mh01h", 5);
        error("Mh01h0", 6);
        error("Mh01M", 4);
        error("Mz", 1);
        error("MD", 1);
        error("" + (char) 255, 0);
        error("M" + (char) 0, 1);
        error("M" + "h01".repeat(39) + "hh", 119);
    }

    private static void tellsEachPlace() {
        error("Md", 2);
        error("Md3", 2);
        error("Md26", 3);
        error("Md256", 4);
        error("Md000", 4);
        error("Md0010", 5);
        error("Md0014", 5);
        error("Md00112", 6);
        error("Md001112", 7);
        error("Md00111150", 10);
        error("Md0011116", 8);
        error("Md00111151", 9);
        error("Md001111501", 10);
        error("Md001111000", 10);
        error("Md00111150x", 10);
        error("Ms8", 2);
        error("Ms0", 3);
        error("Ms02", 3);
        error("Ms012", 4);
        error("Ms0003", 5);
        error("Ms000256", 7);
        error("Ms000000", 8);
        error("Ms000000*", 8);
        error("Ms0000000", 8);
        error("Mf6", 2);
        error("Mf08", 3);
        error("Mf0012", 5);
        error("Mf007", 4);
        error("Mf0020", 4);
        error("Mx12", 3);
        error("Mx2", 2);
        error("Mx0112", 5);
        error("Mx010", 5);
        error("Mx0102", 6);
        error("Mx01020", 6);
        error("Mh00", 3);
        error("Mh0-", 3);
        error("Mh:", 2);
        error("Mh/", 2);
    }

    private static void loads() {
        DogBoard b = new DogBoard();
        Check.write(b, "Md015205060h03s106015+s206013-x0506+h24");
        Check.due("load", () -> b.load(), 0);
        int[] about = {1, 1, 2, 27, 65, 0, 0, 65, 0, 0, 1};
        for (int what = 0; what < about.length; what++) {
            Check.due("about " + what + " behind load", b.about(what), about[what]);
        }
        int[] dog = {15, 2, 5, 0, 65, 1, 2, 2, -1, -1, -1};
        for (int what = 0; what < dog.length; what++) {
            Check.due("dogOf 0, " + what + " behind load", b.dogOf(0, what), dog[what]);
        }
        int[] seen = {1, 6, 3, 15, 1, 0, 0, 1, 0};
        for (int what = 0; what < seen.length; what++) {
            Check.due("sightingOf 0, " + what + " behind load", b.sightingOf(0, what), seen[what]);
        }
        Check.due("the second sighting's photo", b.sightingOf(1, 4), 0);
        Check.due("the text is kept", b.clearText(), 39);

        DogBoard found = Check.loaded("Md015205060h03s106015+f0206x0506+x0506-x0206+");
        Check.due("found in a text: missing", found.about(1), 0);
        Check.due("found in a text: the sighting's finder", found.purse(1), 30);
        Check.due("found in a text: the one who found it", found.purse(2), 30);
        Check.due("closed and opened in a text", found.about(10), 1);
    }

    private static void leavesOut() {
        DogBoard b = new DogBoard();
        Check.write(b, "Mf0000x0002+x0000-h01d001100001f0000f0000");
        Check.due("load with four commands that throw", () -> b.load(), 4);
        Check.due("the dog of the commands that stand", b.about(5), 1);

        DogBoard dogs = new DogBoard();
        Check.write(dogs, "M" + "d001100001".repeat(7));
        Check.due("load with seven dogs", () -> dogs.load(), 1);
        Check.due("six of them stand", dogs.about(0), 6);
    }

    private static void loadForgets() {
        DogBoard b = new DogBoard();
        b.set(0, 50);
        b.set(1, 8);
        b.lose(1, 1, 0, 7);
        b.close(0, 1, true);
        b.hours(30);
        b.sight(1, 0, 1, 0, true);
        b.sight(1, 0, 0, 3, true);
        b.find(0, 2, 5);
        b.save(0);
        b.save(1);
        Check.write(b, "Md001100001");
        Check.due("load ahead of a new state", () -> b.load(), 0);
        Check.same("load makes all as in a new object", Check.stateOf(b), Check.stateOf(Check.loaded("Md001100001")));
        Check.due("undo behind load", () -> b.undo(), Check.STATE);
        Check.due("restore 0 behind load", () -> b.restore(0), Check.STATE);
        Check.due("restore 1 behind load", () -> b.restore(1), Check.STATE);
        Check.due("growth behind load", b.set(0, 5), 5);
        Check.due("unlike marks behind load", b.set(1, 2), 2);
        Check.due("load twice", () -> b.load(), 0);
        Check.due("one dog behind the second load", b.about(0), 1);
    }

    private static void loadRefuses() {
        DogBoard b = new DogBoard();
        b.lose(1, 1, 0, 7);
        b.hours(5);
        b.save(1);
        Check.refused(b, "load of an empty text", () -> b.load(), Check.STATE);
        Check.write(b, "Md001100001h0");
        Check.refused(b, "load of a text that is no board", () -> b.load(), Check.STATE);
        Check.due("the slot behind a load that throws", () -> b.restore(1), 5);
        b.hours(1);
        Check.due("the text behind a load that throws", b.clearText(), 13);
        Check.due("undo behind a load that throws", () -> b.undo(), 0);
    }
}
