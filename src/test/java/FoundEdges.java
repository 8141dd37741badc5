/** Edges of found dogs and shared rewards, and of the promises 6, about, 9, purse, 13, find, and 21, ifFound. */
final class FoundEdges {
    private FoundEdges() {
    }

    static void run() {
        divisionsAreRoundedDown();
        eachSightingHelps();
        nearIsAtMostAStreet();
        restStaysWithTheBoard();
        mostHelp();
        fraudsGetNothing();
        otherSightingsGetNothing();
        findAnswersThisReward();
        findIsNow();
        findTakesItsFinders();
        findNeedsOnes();
        findNeedsAMissingDog();
        numbersOfTheBoard();
        aboutNeedsANumber();
        pursesSoFar();
        purseNeedsAFinder();
        ifFoundAnswersTheOther();
        ifFoundTakesItsFinders();
        ifFoundNeedsOnes();
        ifFoundNeedsAMissingDog();
    }

    private static void divisionsAreRoundedDown() {
        Check.sentence(0, "All divisions are rounded down.");
        DogBoard b = Edges.lostAt(5, 1, 0);
        b.sight(1, 5, 15, 0, false);
        b.sight(2, 5, 15, 0, true);
        Check.due("37 and a half", () -> b.find(0, 0, 5), 37);
        Check.due("25 parts", b.purse(1), 25);
        Check.due("37 and a half, of a sighting", b.purse(2), 37);
        DogBoard one = new DogBoard();
        one.lose(1, 1, 0, 1);
        one.sight(1, 0, 1, 0, false);
        Check.due("three fifths of a coin", () -> one.find(0, 0, 0), 0);
        Check.due("two fifths of a coin", one.purse(1), 0);
    }

    private static final String HELPS = "When a missing dog is found by a finder at a corner, its reward is shared: each "
            + "sighting that means it and is no fraud helps by 1, and by 1 more if it has a photo, and by 1 more if its "
            + "corner is at most 1 street from where it is found; who finds it helps by 3";

    /** What the finder 1 gets of 420 coins for one sighting at 5, when finder 2 finds the dog at a corner. */
    private static int shareOf420(boolean photo, int foundAt, int closedTo) {
        DogBoard b = new DogBoard();
        b.lose(15, 3, 0, 420);
        b.hours(10);
        b.sight(1, 5, 15, 0, photo);
        if (closedTo >= 0) {
            b.close(5, closedTo, true);
        }
        Check.due("ifFound says the same", () -> b.ifFound(0, 2, foundAt, 1) + b.ifFound(0, 2, foundAt, 2), 420);
        int would = b.ifFound(0, 2, foundAt, 1);
        Check.due("who finds it gets the rest", () -> b.find(0, 2, foundAt), 420 - would);
        Check.due("and it is as ifFound says", b.purse(1), would);
        return b.purse(1);
    }

    private static void eachSightingHelps() {
        Check.sentence(0, HELPS);
        Check.due("neither photo nor near: 1 of 4", shareOf420(false, 11, -1), 105);
        Check.due("near: 2 of 5", shareOf420(false, 5, -1), 168);
        Check.due("with a photo: 2 of 5", shareOf420(true, 11, -1), 168);
        Check.due("with a photo, and near: 3 of 6", shareOf420(true, 5, -1), 210);
        DogBoard none = new DogBoard();
        none.lose(15, 3, 0, 420);
        Check.due("no sighting: 3 of 3", () -> none.find(0, 7, 11), 420);
        DogBoard own = new DogBoard();
        own.lose(15, 3, 5, 420);
        own.sight(2, 5, 15, 0, true);
        own.sight(3, 5, 15, 0, false);
        own.sight(2, 5, 15, 0, false);
        Check.due("who finds it saw it too: 8 of 10", () -> own.find(0, 2, 5), 336);
        Check.due("another who saw it: 2 of 10", own.purse(3), 84);
        Check.sentence(0, "Each finder gets the reward times the help of that finder, divided by the help of all");
        DogBoard all = new DogBoard();
        all.lose(15, 3, 5, 500);
        for (int f = 0; f < 8; f++) {
            all.sight(f, 5, 15, 0, f % 2 == 0);
        }
        Check.due("who finds it: 3 + 2 of 23", () -> all.find(0, 7, 5), 500 * 5 / 23);
        for (int f = 0; f < 7; f++) {
            Check.due("finder " + f, all.purse(f), 500 * (f % 2 == 0 ? 3 : 2) / 23);
        }
    }

    private static void nearIsAtMostAStreet() {
        Check.sentence(0, HELPS);
        int[] streets = {2, 1, 2, 3, 1, 0, 1, 2, 2, 1, 2, 3};
        for (int c = 0; c < 12; c++) {
            Check.due("found at " + c + ", " + streets[c] + " streets away", shareOf420(false, c, -1),
                    streets[c] <= 1 ? 168 : 105);
        }
        for (int c : new int[] {1, 4, 6, 9}) {
            Check.due("found at " + c + ", with the street closed", shareOf420(false, c, c), 105);
            Check.due("found at 5, with the street to " + c + " closed", shareOf420(false, 5, c), 168);
        }
    }

    private static void restStaysWithTheBoard() {
        Check.sentence(0, "what is left by rounding stays with the board");
        DogBoard b = new DogBoard();
        b.lose(1, 1, 0, 1);
        b.sight(1, 0, 1, 0, false);
        b.find(0, 0, 0);
        Check.due("the only coin stays", b.about(6), 1);
        Check.due("none is given", b.about(5), 0);
        b.lose(2, 1, 0, 100);
        b.sight(1, 0, 2, 0, false);
        b.sight(2, 0, 2, 0, true);
        b.find(1, 0, 0);
        Check.due("a coin more stays", b.about(6), 2);
        Check.due("99 are given", b.about(5), 99);
        b.lose(4, 1, 0, 5);
        b.sight(1, 0, 4, 0, false);
        b.find(2, 0, 0);
        Check.due("nothing is left", b.about(6), 2);
        Check.due("all five are given", b.about(5), 104);
    }

    private static void mostHelp() {
        Check.sentence(0, "Each finder gets the reward times the help of that finder, divided by the help of all; what is "
                + "left by rounding stays with the board.");
        DogBoard b = new DogBoard();
        b.set(0, 50);
        b.lose(15, 1, 5, 500);
        Edges.pass(b, 99 * 99);
        int reward = 500 + 99 * 99 / 24 * 50;
        Check.due("a reward that has long grown", b.dogOf(0, 4), reward);
        for (int s = 0; s < 20; s++) {
            b.sight(1, 5, 15, 0, true);
        }
        Check.due("3 of 63", () -> b.find(0, 0, 5), reward * 3 / 63);
        Check.due("60 of 63", b.purse(1), reward * 60 / 63);
        Check.due("what stays", b.about(6), reward - reward * 3 / 63 - reward * 60 / 63);
        Check.due("what is paid is given, or stays", b.about(4), b.about(5) + b.about(6));
    }

    private static void fraudsGetNothing() {
        Check.sentence(0, "Finders of sightings get nothing for frauds.");
        DogBoard b = Edges.lostAt(5, 1, 1);
        b.sight(1, 11, 15, 0, true);
        b.sight(2, 5, 15, 0, true);
        b.sight(3, 6, 15, 0, false);
        Check.due("one is not true, one fits none", b.about(8), 2);
        Check.due("who finds it: 3 of 6", () -> b.find(0, 0, 5), 50);
        Check.due("who told what is not true", b.purse(1), 0);
        Check.due("who told what is no fraud", b.purse(2), 50);
        Check.due("who told what fits none", b.purse(3), 0);
    }

    private static void otherSightingsGetNothing() {
        Check.sentence(0, "each sighting that means it");
        DogBoard b = Edges.lostAt(5, 1, 0);
        b.lose(240, 1, 5, 100);
        b.sight(1, 5, 240, 0, true);
        b.sight(2, 5, 0b0011_1100, 0, true);
        Check.due("sightings of another and of none", () -> b.find(0, 0, 5), 100);
        Check.due("the one of another counts for it", () -> b.find(1, 0, 5), 50);
        Check.due("who saw it", b.purse(1), 50);
        Check.due("who saw none", b.purse(2), 0);
    }

    private static void findAnswersThisReward() {
        Check.sentence(13, "Returns the coins that this finder gets of it.");
        DogBoard b = Edges.lostAt(5, 1, 0);
        b.lose(240, 1, 5, 60);
        b.sight(1, 5, 240, 0, true);
        Check.due("the first reward", () -> b.find(0, 0, 5), 100);
        Check.due("the second, without the first", () -> b.find(1, 0, 5), 30);
        Check.due("the finder's purse", b.purse(0), 130);
        DogBoard seen = Edges.lostAt(5, 1, 0);
        seen.sight(0, 5, 15, 0, true);
        seen.sight(1, 5, 15, 0, true);
        Check.due("with what the sighting helps", () -> seen.find(0, 0, 5), 66);
    }

    private static void findIsNow() {
        Check.sentence(13, "A missing dog is found, now.");
        DogBoard b = Edges.lostAt(5, 1, 0);
        b.find(0, 7, 11);
        Check.due("in the hour of its loss", b.dogOf(0, 10), 0);
        DogBoard later = Edges.lostAt(5, 1, 198);
        later.find(0, 0, 0);
        Check.due("much later", later.dogOf(0, 10), 198);
        later.hours(1);
        Check.due("the hour stays", later.dogOf(0, 10), 198);
        Check.due("the corner", later.dogOf(0, 8), 0);
        Check.due("the finder", later.dogOf(0, 9), 0);
    }

    private static void findTakesItsFinders() {
        Check.sentence(13, "`finder`: 0 to 7");
        for (int f = -1; f <= 8; f++) {
            int finder = f;
            DogBoard b = Edges.busy();
            boolean exists = f >= 0 && f <= 7;
            Check.due("find by " + f, () -> b.find(1, finder, 0), exists ? 55 : Edges.BOUNDS);
            Check.due("the finder who found it", b.dogOf(1, 9), exists ? f : -1);
        }
    }

    private static void findNeedsOnes() {
        Check.sentence(13, "Throws `IndexOutOfBoundsException` if there is no such dog, finder or corner");
        for (int d : Edges.NO_DOGS) {
            Edges.refuses("find(" + d + ", 0, 0)", Edges::busy, b -> b.find(d, 0, 0), Edges.BOUNDS);
        }
        for (int f : Edges.NO_FINDERS) {
            Edges.refuses("find(0, " + f + ", 0)", Edges::busy, b -> b.find(0, f, 0), Edges.BOUNDS);
            Edges.refuses("find(2, " + f + ", 0), which is found", Edges::busy, b -> b.find(2, f, 0), Edges.BOUNDS);
        }
        for (int c : Edges.NO_CORNERS) {
            Edges.refuses("find(0, 0, " + c + ")", Edges::busy, b -> b.find(0, 0, c), Edges.BOUNDS);
            Edges.refuses("find(2, 7, " + c + "), which is found", Edges::busy, b -> b.find(2, 7, c), Edges.BOUNDS);
        }
        Edges.refuses("find(0, 0, 0) without dogs", Edges::fresh, b -> b.find(0, 0, 0), Edges.BOUNDS);
        Edges.refuses("find(6, 0, 0) of six", Edges::withSixDogs, b -> b.find(6, 0, 0), Edges.BOUNDS);
        Check.due("find(5, 7, 11) of six", () -> Edges.withSixDogs().find(5, 7, 11), 1);
    }

    private static void findNeedsAMissingDog() {
        Check.sentence(13, "Throws `IllegalStateException` if the dog is not missing");
        Edges.refuses("find(2, 0, 0), which is found", Edges::busy, b -> b.find(2, 0, 0), Edges.STATE);
        Edges.refuses("find(2, 7, 10) as it is found", Edges::busy, b -> b.find(2, 7, 10), Edges.STATE);
    }

    private static void dueAbout(DogBoard b, int... want) {
        for (int what = 0; what < want.length; what++) {
            Check.due("about(" + what + ")", b.about(what), want[what]);
        }
    }

    private static void numbersOfTheBoard() {
        Check.sentence(6, "- `what`: 0: the dogs; 1: those missing; 2: the sightings; 3: the hour of now; 4: coins paid to "
                + "the board so far; 5: coins given to finders so far; 6: coins that stayed with the board of rewards that "
                + "were shared; 7: the rewards of missing dogs together; 8: the sightings that are frauds, how many; 9: those that mean no "
                + "dog; 10: the closed streets");
        dueAbout(Edges.fresh(), 0, 0, 0, 0, 0, 0, 0, 0, 0, 0, 0);
        dueAbout(Edges.busy(), 3, 2, 5, 31, 175, 14, 1, 160, 1, 1, 2);
        DogBoard found = Edges.busy();
        found.find(0, 0, 5);
        found.find(1, 0, 5);
        // Of 105 coins: 3 for the one who finds it, 3 and 2 for the sightings, of 8; 39 + 39 + 26, and 1 stays.
        dueAbout(found, 3, 0, 5, 31, 175, 173, 2, 0, 1, 1, 2);
        dueAbout(Edges.withTwentySightings(), 3, 2, 20, 31, 175, 14, 1, 160, 1, 16, 2);
        dueAbout(Edges.withSixDogs(), 6, 5, 5, 31, 178, 14, 1, 163, 1, 1, 2);
    }

    private static void aboutNeedsANumber() {
        Check.sentence(6, "Throws `IllegalArgumentException` if what is not 0 to 10");
        for (int what : new int[] {Integer.MIN_VALUE, -1, 11, Integer.MAX_VALUE}) {
            Edges.refuses("about(" + what + ")", Edges::busy, b -> b.about(what), Edges.ARGUMENT);
        }
        Edges.onlyTells("about(0)", Edges::busy, b -> b.about(0), 3);
        Edges.onlyTells("about(10)", Edges::busy, b -> b.about(10), 2);
    }

    private static void pursesSoFar() {
        Check.sentence(9, "Returns the coins that a finder got so far.");
        for (int f = 0; f < 8; f++) {
            int finder = f;
            Check.due("purse(" + f + ") at first", () -> Edges.fresh().purse(finder), 0);
            DogBoard b = Edges.lostAt(5, 1, 0);
            b.lose(1, 1, 0, 500);
            b.find(0, f, 0);
            Check.due("purse(" + f + ") of one reward", () -> b.purse(finder), 100);
            b.find(1, f, 0);
            for (int other = 0; other < 8; other++) {
                Check.due("purse(" + other + ")", b.purse(other), other == f ? 600 : 0);
            }
        }
    }

    private static void purseNeedsAFinder() {
        Check.sentence(9, "Throws `IndexOutOfBoundsException` if there is no such finder");
        for (int f : Edges.NO_FINDERS) {
            Edges.refuses("purse(" + f + ")", Edges::busy, b -> b.purse(f), Edges.BOUNDS);
        }
        Edges.onlyTells("purse(0)", Edges::busy, b -> b.purse(0), 0);
        Edges.onlyTells("purse(7)", Edges::busy, b -> b.purse(7), 7);
    }

    private static void ifFoundAnswersTheOther() {
        Check.sentence(21, "Returns the coins that the other one would get of its reward.");
        // Found at 5: 3 for the sighting by finder 1, 2 for the one by finder 2, and 3, of 8; 105 coins.
        Edges.onlyTells("the one who finds it", Edges::busy, b -> b.ifFound(0, 0, 5, 0), 39);
        Edges.onlyTells("one who saw it", Edges::busy, b -> b.ifFound(0, 0, 5, 1), 39);
        Edges.onlyTells("another who saw it", Edges::busy, b -> b.ifFound(0, 7, 5, 2), 26);
        Edges.onlyTells("one who did nothing", Edges::busy, b -> b.ifFound(0, 0, 5, 7), 0);
        Edges.onlyTells("one who finds it and saw it", Edges::busy, b -> b.ifFound(0, 1, 5, 1), 78);
        Edges.onlyTells("one who told a fraud", Edges::busy, b -> b.ifFound(1, 0, 11, 3), 0);
        // Found at 7, a street from 6 and three from 4: 3 for finder 1, 1 for finder 2, and 3, of 7.
        Edges.onlyTells("far from one", Edges::busy, b -> b.ifFound(0, 0, 7, 2), 15);
        Edges.onlyTells("far from both: 2, 1 and 3 of 6", Edges::busy, b -> b.ifFound(0, 0, 11, 1), 35);
        DogBoard b = Edges.lostAt(5, 1, 23);
        Check.due("its reward as it is now", () -> b.ifFound(0, 0, 0, 0), 100);
        b.hours(1);
        Check.due("its reward as it has grown", () -> b.ifFound(0, 0, 0, 0), 105);
    }

    private static void ifFoundTakesItsFinders() {
        for (int f = -1; f <= 8; f++) {
            int finder = f;
            boolean exists = f >= 0 && f <= 7;
            Check.sentence(21, "`finder`: 0 to 7: who would find it now");
            Check.due("ifFound by " + f, () -> Edges.busy().ifFound(1, finder, 0, 3), !exists ? Edges.BOUNDS : f == 3 ? 55 : 0);
            Check.sentence(21, "`other`: 0 to 7: the finder who is asked about");
            Check.due("ifFound of " + f, () -> Edges.busy().ifFound(1, 3, 0, finder), !exists ? Edges.BOUNDS : f == 3 ? 55 : 0);
        }
    }

    private static void ifFoundNeedsOnes() {
        Check.sentence(21, "Throws `IndexOutOfBoundsException` if there is no such dog, finder or corner");
        for (int d : Edges.NO_DOGS) {
            Edges.refuses("ifFound(" + d + ", 0, 0, 0)", Edges::busy, b -> b.ifFound(d, 0, 0, 0), Edges.BOUNDS);
        }
        for (int f : Edges.NO_FINDERS) {
            Edges.refuses("ifFound(0, " + f + ", 0, 0)", Edges::busy, b -> b.ifFound(0, f, 0, 0), Edges.BOUNDS);
            Edges.refuses("ifFound(0, 0, 0, " + f + ")", Edges::busy, b -> b.ifFound(0, 0, 0, f), Edges.BOUNDS);
            Edges.refuses("ifFound(0, " + f + " twice)", Edges::busy, b -> b.ifFound(0, f, 0, f), Edges.BOUNDS);
            Edges.refuses("ifFound(2, " + f + ", 0, 0)", Edges::busy, b -> b.ifFound(2, f, 0, 0), Edges.BOUNDS);
            Edges.refuses("ifFound(2, 0, 0, " + f + ")", Edges::busy, b -> b.ifFound(2, 0, 0, f), Edges.BOUNDS);
        }
        for (int c : Edges.NO_CORNERS) {
            Edges.refuses("ifFound(0, 0, " + c + ", 0)", Edges::busy, b -> b.ifFound(0, 0, c, 0), Edges.BOUNDS);
            Edges.refuses("ifFound(2, 0, " + c + ", 0)", Edges::busy, b -> b.ifFound(2, 0, c, 0), Edges.BOUNDS);
        }
        Edges.refuses("ifFound(0, 0, 0, 0) without dogs", Edges::fresh, b -> b.ifFound(0, 0, 0, 0), Edges.BOUNDS);
        Edges.onlyTells("ifFound(1, 7, 11, 7)", Edges::busy, b -> b.ifFound(1, 7, 11, 7), 55);
    }

    private static void ifFoundNeedsAMissingDog() {
        Check.sentence(21, "Throws `IllegalStateException` if the dog is not missing");
        Edges.refuses("ifFound(2, 7, 10, 7)", Edges::busy, b -> b.ifFound(2, 7, 10, 7), Edges.STATE);
        Edges.refuses("ifFound(2, 0, 0, 1)", Edges::busy, b -> b.ifFound(2, 0, 0, 1), Edges.STATE);
    }
}
