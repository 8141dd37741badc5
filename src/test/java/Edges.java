/** What the tests of edges share: boards to begin with, and looks at everything that a call might change. */
final class Edges {
    static final int BOUNDS = Check.BOUNDS;
    static final int ARGUMENT = Check.ARGUMENT;
    static final int STATE = Check.STATE;
    static final int NONE = -1;

    static final int[] NO_CORNERS = {Integer.MIN_VALUE, -12, -1, 12, 13, 100, Integer.MAX_VALUE};
    static final int[] NO_FINDERS = {Integer.MIN_VALUE, -1, 8, 9, Integer.MAX_VALUE};
    /** Dogs that a busy board has not, though some of them could be lost yet. */
    static final int[] NO_DOGS = {Integer.MIN_VALUE, -1, 3, 5, 6, Integer.MAX_VALUE};

    private static final int MOST_ACTIONS_BACK = 16;
    private static final Look[] LOOKS = {Check::stateOf, Edges::settingsOf, Edges::historyOf, Edges::textOf,
        b -> slotOf(b, 0), b -> slotOf(b, 1)};

    private Edges() {
    }

    interface Maker {
        DogBoard make();
    }

    interface Question {
        int of(DogBoard b);
    }

    private interface Look {
        String of(DogBoard b);
    }

    static DogBoard fresh() {
        return new DogBoard();
    }

    /**
     * A board on which everything is in use: the dogs 0 and 1 are missing, 2 is found; the sightings 0 and 1 mean
     * the dog 0, 2 means 1 and is a fraud, 3 means none, 4 means 2; a coin stayed with the board; 14 states are
     * remembered, and 5 are forgotten; both save slots are filled; the text is a board; no setting is as at first.
     * The hour is 31.
     */
    static DogBoard busy() {
        DogBoard b = new DogBoard();
        Check.write(b, "Md015305099h07");
        b.lose(15, 1, 5, 100);
        b.save(0);
        b.lose(240, 2, 0, 50);
        b.lose(3, 3, 11, 10);
        b.hours(30);
        b.sight(1, 6, 15, 2, true);
        b.sight(2, 4, 14, 20, false);
        b.sight(3, 11, 240, 29, true);
        b.sight(4, 0, 90, 0, false);
        b.sight(5, 10, 3, 0, true);
        b.close(2, 3, true);
        b.set(0, 9);
        b.set(1, 3);
        b.find(2, 7, 10);
        b.save(1);
        b.close(8, 9, true);
        b.hours(1);
        b.close(8, 9, false);
        b.set(0, 7);
        b.set(0, 8);
        b.close(8, 9, true);
        return b;
    }

    static DogBoard withSixDogs() {
        DogBoard b = busy();
        for (int d = 3; d < 6; d++) {
            b.lose(1, 1, d, 1);
        }
        return b;
    }

    static DogBoard withTwentySightings() {
        DogBoard b = busy();
        for (int s = 5; s < 20; s++) {
            b.sight(0, 0, 0, 0, false);
        }
        return b;
    }

    static DogBoard withFullText() {
        DogBoard b = busy();
        for (int length = 14; length < 120; length++) {
            b.append('h');
        }
        return b;
    }

    /** A dog with the marks 0 to 3 that was lost at a corner at the hour 0, some hours ago. */
    static DogBoard lostAt(int corner, int pace, int hoursAgo) {
        DogBoard b = new DogBoard();
        b.lose(15, pace, corner, 100);
        pass(b, hoursAgo);
        return b;
    }

    static void pass(DogBoard b, int hours) {
        for (int left = hours; left > 0; left -= 99) {
            b.hours(Math.min(left, 99));
        }
    }

    /** A call that must throw this, and must change nothing: board and twin must look alike behind it. */
    static void refuses(String what, Maker maker, Question question, int want) {
        leavesAll(what, maker, question, want);
    }

    /** A call that must answer this, and must change nothing. */
    static void onlyTells(String what, Maker maker, Question question, int want) {
        leavesAll(what, maker, question, want);
    }

    private static void leavesAll(String what, Maker maker, Question question, int want) {
        for (Look look : LOOKS) {
            DogBoard asked = maker.make();
            Check.due(what, () -> question.of(asked), want);
            Check.same("behind " + what, look.of(asked), look.of(maker.make()));
        }
    }

    // The looks use a board up; each stays far below the 512 calls that a board is made for.

    private static String settingsOf(DogBoard b) {
        return "growth " + b.set(0, 0) + " unlike " + b.set(1, 0);
    }

    private static String historyOf(DogBoard b) {
        StringBuilder all = new StringBuilder();
        for (int back = 0; back < MOST_ACTIONS_BACK; back++) {
            all.append("undo ").append(Check.answerOf(b::undo)).append(':');
            for (int what = 0; what <= 10; what++) {
                all.append(' ').append(b.about(what));
            }
        }
        return all.append(' ').append(settingsOf(b)).toString();
    }

    private static String textOf(DogBoard b) {
        int error = b.errorPosition();
        int leftOut = Check.answerOf(b::load);
        return "error " + error + " load " + leftOut + " length " + b.clearText() + " " + Check.stateOf(b);
    }

    private static String slotOf(DogBoard b, int slot) {
        int hour = Check.answerOf(() -> b.restore(slot));
        return "slot " + slot + " hour " + hour + " " + Check.stateOf(b) + settingsOf(b);
    }
}
