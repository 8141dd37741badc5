/** Edges of the hours and the dogs, and of the promises 7, dogOf, 11, lose, and 15, hours. */
final class DogEdges {
    private static final int[] NOT_REWARDS = {Integer.MIN_VALUE, -1, 0, 501, Integer.MAX_VALUE};
    private static final int[] NOT_MARKS = {Integer.MIN_VALUE, -1, 0, 256, 257, Integer.MAX_VALUE};
    private static final int[] NOT_PACES = {Integer.MIN_VALUE, -1, 0, 4, Integer.MAX_VALUE};

    private DogEdges() {
    }

    static void run() {
        hoursFromZero();
        sixDogs();
        marksOfADog();
        paceOfADog();
        whereAndWhenLost();
        rewardOfADog();
        missingOrFound();
        growsByWholeDays();
        growsByTheSettingThen();
        growsBehindItsOwnLoss();
        growsWhileMissing();
        loseAnswersTheNumber();
        loseNeedsACorner();
        loseNeedsItsRanges();
        loseNeedsAPlace();
        numbersOfADog();
        dogOfNeedsADog();
        dogOfNeedsANumber();
        hoursGoBy();
        growthOfAllTogether();
        hoursNeedTheirRange();
    }

    private static void hoursFromZero() {
        Check.sentence(0, "The hours are numbered from 0; the hour of now is 0 at first.");
        DogBoard b = new DogBoard();
        Check.due("the hour at first", b.about(3), 0);
        b.lose(1, 1, 0, 1);
        Check.due("lost in the first hour", b.dogOf(0, 3), 0);
        b.hours(1);
        Check.due("the hour behind it", b.about(3), 1);
    }

    private static void sixDogs() {
        Check.sentence(0, "There are at most 6 dogs, numbered from 0.");
        DogBoard b = new DogBoard();
        for (int d = 0; d < 6; d++) {
            int dog = d;
            Check.due("dog " + d + " is not there yet", () -> b.dogOf(dog, 0), Edges.BOUNDS);
            Check.due("lose dog " + d, () -> b.lose(1 + dog, 1, 0, 1), d);
            Check.due("dog " + d + " is there", () -> b.dogOf(dog, 0), 1 + d);
            Check.due("dogs", b.about(0), d + 1);
        }
        Check.due("a seventh", () -> b.lose(1, 1, 0, 1), Edges.STATE);
        Check.due("dog 6", () -> b.dogOf(6, 0), Edges.BOUNDS);
        b.find(5, 0, 0);
        Check.due("a seventh, with one found", () -> b.lose(1, 1, 0, 1), Edges.STATE);
        b.undo();
        b.undo();
        Check.due("a sixth once more", () -> b.lose(9, 1, 0, 1), 5);
    }

    private static void refusesToLose(String what, int marks, int pace, int reward) {
        Edges.refuses("lose with " + what, Edges::busy, b -> b.lose(marks, pace, 0, reward), Edges.ARGUMENT);
    }

    private static void marksOfADog() {
        Check.sentence(0, "A dog has marks, a set of the marks 0 to 7 (1 to 255, bit m for the mark m)");
        for (int m = 0; m < 8; m++) {
            DogBoard b = new DogBoard();
            int only = 1 << m;
            Check.due("lose with the mark " + m, () -> b.lose(only, 1, 0, 1), 0);
            Check.due("the mark " + m, b.dogOf(0, 0), only);
            Check.due("unlike marks of none", b.sight(0, 0, 0, 0, true), 0);
            Check.due("how many unlike marks", b.sightingOf(0, 6), 1);
        }
        DogBoard all = new DogBoard();
        Check.due("lose with all marks", () -> all.lose(255, 1, 0, 1), 0);
        Check.due("all marks", all.dogOf(0, 0), 255);
        Check.sentence(11, "`marks`: 1 to 255");
        for (int marks : NOT_MARKS) {
            refusesToLose("the marks " + marks, marks, 1, 1);
        }
    }

    private static void paceOfADog() {
        Check.sentence(0, "a pace (1 to 3: how many streets it can run in an hour)");
        int[] corners = {0b0000_0001_0011, 0b0001_0011_0111, 0b0011_0111_1111};
        for (int pace = 1; pace <= 3; pace++) {
            DogBoard b = new DogBoard();
            int p = pace;
            Check.due("lose with the pace " + p, () -> b.lose(1, p, 0, 1), 0);
            Check.due("the pace", b.dogOf(0, 1), p);
            b.hours(1);
            Check.due("where it can be in an hour", b.canBe(0), corners[p - 1]);
        }
        Check.sentence(11, "`pace`: 1 to 3");
        for (int pace : NOT_PACES) {
            refusesToLose("the pace " + pace, 1, pace, 1);
        }
    }

    private static void whereAndWhenLost() {
        Check.sentence(0, "the corner where it was lost and the hour when");
        DogBoard b = new DogBoard();
        b.hours(99);
        b.lose(1, 1, 11, 1);
        b.hours(99);
        b.hours(99);
        b.lose(1, 1, 0, 1);
        b.hours(1);
        Check.due("the corner of the first", b.dogOf(0, 2), 11);
        Check.due("the hour of the first", b.dogOf(0, 3), 99);
        Check.due("the corner of the second", b.dogOf(1, 2), 0);
        Check.due("the hour of the second", b.dogOf(1, 3), 297);
        Check.sentence(11, "A dog is lost, now.");
        Check.due("lose now", () -> b.lose(1, 1, 5, 1), 2);
        Check.due("its hour is now", b.dogOf(2, 3), b.about(3));
    }

    private static void rewardOfADog() {
        Check.sentence(0, "and a reward, 1 to 500 coins, paid to the board as it is lost");
        DogBoard b = new DogBoard();
        Check.due("lose with a coin", () -> b.lose(1, 1, 0, 1), 0);
        Check.due("a coin is paid", b.about(4), 1);
        Check.due("lose with 500 coins", () -> b.lose(1, 1, 0, 500), 1);
        Check.due("501 coins are paid", b.about(4), 501);
        Check.due("the first reward", b.dogOf(0, 4), 1);
        Check.due("the second reward", b.dogOf(1, 4), 500);
        Check.due("both together", b.about(7), 501);
        Check.sentence(11, "`reward`: 1 to 500");
        for (int reward : NOT_REWARDS) {
            refusesToLose("the reward " + reward, 1, 1, reward);
        }
    }

    private static void missingOrFound() {
        Check.sentence(0, "It is missing, or found.");
        DogBoard b = Edges.lostAt(0, 1, 0);
        Check.due("missing", b.dogOf(0, 5), 1);
        Check.due("missing dogs", b.about(1), 1);
        b.find(0, 0, 11);
        Check.due("found", b.dogOf(0, 5), 0);
        Check.due("missing dogs then", b.about(1), 0);
        Check.due("dogs then", b.about(0), 1);
    }

    private static final String GROWS = "The reward of a missing dog grows by setting 0 for each whole day that it is "
            + "missing (24, 48 .. hours behind its own loss, by the setting as it is then)";

    private static void growsByWholeDays() {
        Check.sentence(0, GROWS);
        DogBoard b = new DogBoard();
        b.lose(1, 1, 0, 10);
        Check.due("up to the 23rd hour", () -> b.hours(23), 0);
        Check.due("the reward in the 23rd hour", b.dogOf(0, 4), 10);
        Check.due("the 24th hour", () -> b.hours(1), 5);
        Check.due("the reward in the 24th hour", b.dogOf(0, 4), 15);
        Check.due("the 25th hour", () -> b.hours(1), 0);
        Check.due("up to the 47th hour", () -> b.hours(22), 0);
        Check.due("the 48th hour", () -> b.hours(1), 5);
        Check.due("up to the 95th hour, at once", () -> b.hours(47), 5);
        Check.due("the 96th hour", () -> b.hours(1), 5);
        Check.due("four days and three hours at once", () -> b.hours(99), 20);
        Check.due("up to the hour ahead of the next", () -> b.hours(20), 0);
        Check.due("97 hours, of which five end a day", () -> b.hours(97), 25);
        Check.due("the reward in the end", b.dogOf(0, 4), 10 + 13 * 5);
        Check.sentence(0, "what it grows by is paid to the board then");
        Check.due("what is paid", b.about(4), 10 + 13 * 5);
    }

    private static void growsByTheSettingThen() {
        Check.sentence(0, GROWS);
        DogBoard b = new DogBoard();
        b.lose(1, 1, 0, 10);
        b.hours(23);
        b.set(0, 50);
        Check.due("by the setting of the 24th hour", () -> b.hours(1), 50);
        b.set(0, 0);
        Check.due("what it has grown by stays", b.dogOf(0, 4), 60);
        Check.due("by nothing", () -> b.hours(24), 0);
        b.set(0, 1);
        Check.due("by a coin", () -> b.hours(24), 1);
        Check.due("the reward", b.dogOf(0, 4), 61);
        Check.due("paid", b.about(4), 61);
    }

    private static void growsBehindItsOwnLoss() {
        Check.sentence(0, GROWS);
        DogBoard b = new DogBoard();
        b.hours(23);
        b.lose(1, 1, 0, 10);
        Check.due("a day of the board", () -> b.hours(1), 0);
        b.lose(1, 1, 0, 20);
        Check.due("ahead of both days", () -> b.hours(22), 0);
        Check.due("a day of the first", () -> b.hours(1), 5);
        Check.due("the first", b.dogOf(0, 4), 15);
        Check.due("not yet the second", b.dogOf(1, 4), 20);
        Check.due("a day of the second", () -> b.hours(1), 5);
        Check.due("the second", b.dogOf(1, 4), 25);
        Check.due("the first again", b.dogOf(0, 4), 15);
    }

    private static void growsWhileMissing() {
        Check.sentence(0, GROWS);
        DogBoard early = Edges.lostAt(0, 1, 23);
        early.find(0, 3, 0);
        Check.due("found an hour ahead of a day", () -> early.hours(1), 0);
        Check.due("its reward", early.dogOf(0, 4), 100);
        Check.due("what is paid for it", early.about(4), 100);
        DogBoard late = Edges.lostAt(0, 1, 24);
        Check.due("found as the day ends", () -> late.find(0, 3, 0), 105);
        Check.due("days behind it", () -> late.hours(99), 0);
        Check.due("its reward then", late.dogOf(0, 4), 105);
        Check.due("what is paid for it then", late.about(4), 105);
    }

    private static void loseAnswersTheNumber() {
        Check.sentence(11, "Returns the number of the dog.");
        DogBoard b = new DogBoard();
        Check.due("the first", () -> b.lose(7, 1, 0, 1), 0);
        b.find(0, 0, 0);
        Check.due("the next, though the first is found", () -> b.lose(7, 1, 0, 1), 1);
        b.undo();
        Check.due("the next, when that was taken back", () -> b.lose(7, 1, 0, 1), 1);
    }

    private static void loseNeedsACorner() {
        Check.sentence(11, "Throws `IndexOutOfBoundsException` if there is no such corner");
        for (int c : Edges.NO_CORNERS) {
            Edges.refuses("lose at " + c, Edges::busy, b -> b.lose(1, 1, c, 1), Edges.BOUNDS);
            Edges.refuses("lose at " + c + " without marks", Edges::busy, b -> b.lose(0, 1, c, 1), Edges.BOUNDS);
            Edges.refuses("lose at " + c + " without pace", Edges::busy, b -> b.lose(1, 0, c, 1), Edges.BOUNDS);
            Edges.refuses("lose at " + c + " without reward", Edges::busy, b -> b.lose(1, 1, c, 0), Edges.BOUNDS);
            Edges.refuses("lose a seventh at " + c, Edges::withSixDogs, b -> b.lose(1, 1, c, 1), Edges.BOUNDS);
            Edges.refuses("all wrong at " + c, Edges::withSixDogs, b -> b.lose(256, 4, c, 501), Edges.BOUNDS);
        }
    }

    private static void loseNeedsItsRanges() {
        Check.sentence(11, "Throws `IllegalArgumentException` if marks, pace or reward is out of range");
        for (int marks : NOT_MARKS) {
            Edges.refuses("a seventh with the marks " + marks, Edges::withSixDogs,
                    b -> b.lose(marks, 3, 11, 500), Edges.ARGUMENT);
        }
        for (int pace : NOT_PACES) {
            Edges.refuses("a seventh with the pace " + pace, Edges::withSixDogs,
                    b -> b.lose(255, pace, 11, 500), Edges.ARGUMENT);
        }
        for (int reward : NOT_REWARDS) {
            Edges.refuses("a seventh with the reward " + reward, Edges::withSixDogs,
                    b -> b.lose(255, 3, 11, reward), Edges.ARGUMENT);
        }
        Check.due("the least of all", () -> Edges.busy().lose(1, 1, 0, 1), 3);
        Check.due("the most of all", () -> Edges.busy().lose(255, 3, 11, 500), 3);
    }

    private static void loseNeedsAPlace() {
        Check.sentence(11, "Throws `IllegalStateException` if there are 6 dogs");
        Edges.refuses("a seventh", Edges::withSixDogs, b -> b.lose(1, 1, 0, 1), Edges.STATE);
        Edges.refuses("a seventh of the most", Edges::withSixDogs, b -> b.lose(255, 3, 11, 500), Edges.STATE);
        Check.due("a sixth", () -> {
            DogBoard b = Edges.withSixDogs();
            b.undo();
            return b.lose(1, 1, 0, 1);
        }, 5);
    }

    private static void due(DogBoard b, int d, int... want) {
        for (int what = 0; what < want.length; what++) {
            Check.due("dogOf(" + d + ", " + what + ")", b.dogOf(d, what), want[what]);
        }
    }

    private static void numbersOfADog() {
        Check.sentence(7, "- `what`: 0: its marks; 1: its pace; 2: the corner where it was lost; 3: the hour when it was "
                + "lost; 4: its reward, as it is or was when it was found; 5: 1 if it is missing, otherwise 0; 6: sightings "
                + "that mean it; 7: those of them that are no frauds; 8: the corner where it was found, NONE if it is missing; "
                + "9: the finder who found it, NONE likewise; 10: the hour when it was found, NONE likewise");
        DogBoard b = Edges.busy();
        due(b, 0, 15, 1, 5, 0, 105, 1, 2, 2, -1, -1, -1);
        due(b, 1, 240, 2, 0, 0, 55, 1, 1, 0, -1, -1, -1);
        due(b, 2, 3, 3, 11, 0, 15, 0, 1, 1, 10, 7, 30);
        b.find(1, 0, 0);
        due(b, 1, 240, 2, 0, 0, 55, 0, 1, 0, 0, 0, 31);
        b.hours(99);
        due(b, 0, 15, 1, 5, 0, 105 + 4 * 8, 1, 2, 2, -1, -1, -1);
        due(b, 1, 240, 2, 0, 0, 55, 0, 1, 0, 0, 0, 31);
        due(b, 2, 3, 3, 11, 0, 15, 0, 1, 1, 10, 7, 30);
        DogBoard first = new DogBoard();
        first.lose(1, 1, 11, 1);
        first.find(0, 0, 0);
        due(first, 0, 1, 1, 11, 0, 1, 0, 0, 0, 0, 0, 0);
    }

    private static void dogOfNeedsADog() {
        Check.sentence(7, "Throws `IndexOutOfBoundsException` if there is no such dog");
        for (int d : Edges.NO_DOGS) {
            for (int what : new int[] {-1, 0, 10, 11}) {
                Edges.refuses("dogOf(" + d + ", " + what + ")", Edges::busy, b -> b.dogOf(d, what), Edges.BOUNDS);
            }
        }
        Edges.refuses("dogOf(0, 0) without dogs", Edges::fresh, b -> b.dogOf(0, 0), Edges.BOUNDS);
        Edges.refuses("dogOf(6, 0) of six", Edges::withSixDogs, b -> b.dogOf(6, 0), Edges.BOUNDS);
        Edges.onlyTells("dogOf(5, 2) of six", Edges::withSixDogs, b -> b.dogOf(5, 2), 5);
    }

    private static void dogOfNeedsANumber() {
        Check.sentence(7, "Throws `IllegalArgumentException` if what is not 0 to 10");
        for (int what : new int[] {Integer.MIN_VALUE, -1, 11, Integer.MAX_VALUE}) {
            Edges.refuses("dogOf(0, " + what + ")", Edges::busy, b -> b.dogOf(0, what), Edges.ARGUMENT);
            Edges.refuses("dogOf(2, " + what + ")", Edges::busy, b -> b.dogOf(2, what), Edges.ARGUMENT);
        }
        Edges.onlyTells("dogOf(2, 0)", Edges::busy, b -> b.dogOf(2, 0), 3);
        Edges.onlyTells("dogOf(2, 10)", Edges::busy, b -> b.dogOf(2, 10), 30);
    }

    private static void hoursGoBy() {
        Check.sentence(15, "Lets hours go by.");
        DogBoard b = new DogBoard();
        b.hours(1);
        Check.due("an hour", b.about(3), 1);
        b.hours(99);
        Check.due("99 hours more", b.about(3), 100);
        Check.sentence(15, "`n`: 1 to 99");
        Check.due("hours(1)", () -> Edges.busy().hours(1), 0);
        Check.due("hours(99)", () -> Edges.busy().hours(99), 2 * 4 * 8);
    }

    private static void growthOfAllTogether() {
        Check.sentence(15, "Returns the coins by which rewards grow in them, together.");
        DogBoard b = new DogBoard();
        b.set(0, 50);
        for (int d = 0; d < 6; d++) {
            b.lose(1, 1, 0, 1);
        }
        Check.due("six dogs, four days", () -> b.hours(99), 6 * 4 * 50);
        Check.due("their rewards", b.about(7), 6 + 6 * 4 * 50);
        Check.due("none in them", () -> b.hours(20), 0);
        for (int d = 0; d < 6; d++) {
            b.find(d, 0, 0);
        }
        Check.due("none is missing", () -> b.hours(99), 0);
        Check.due("no dogs", () -> new DogBoard().hours(99), 0);
    }

    private static void hoursNeedTheirRange() {
        Check.sentence(15, "Throws `IllegalArgumentException` if n is out of range");
        for (int n : new int[] {Integer.MIN_VALUE, -1, 0, 100, 101, Integer.MAX_VALUE}) {
            Edges.refuses("hours(" + n + ")", Edges::busy, b -> b.hours(n), Edges.ARGUMENT);
        }
    }
}
