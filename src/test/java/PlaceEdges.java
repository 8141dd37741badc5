/** Edges of where a dog can be, and of the promises 18, canBe, and 19, watch. */
final class PlaceEdges {
    /** The corners that are at most 0 to 5 streets from the corner 0. */
    private static final int[] AROUND_0 = {0b0000_0000_0001, 0b0000_0001_0011, 0b0001_0011_0111, 0b0011_0111_1111,
        0b0111_1111_1111, 0b1111_1111_1111};
    private static final int AT_1_OF_5 = 1 << 5 | 1 << 1 | 1 << 4 | 1 << 6 | 1 << 9;
    private static final int AT_1_OF_6 = 1 << 6 | 1 << 2 | 1 << 5 | 1 << 7 | 1 << 10;

    private PlaceEdges() {
    }

    static void run() {
        byItsLoss();
        bySightings();
        notByFrauds();
        noWayThere();
        canBeAnswersASet();
        canBeNeedsADog();
        canBeNeedsAMissingDog();
        watchesMostDogs();
        watchesTheGreatestRewards();
        watchesTheLowest();
        watchesWhereNoneCanBe();
        watchesNothing();
    }

    private static final String CAN_BE = "A missing dog can be now at a corner, if for the corner and hour of its loss, and "
            + "for each sighting that means it and is no fraud, the way from there to the corner is at most the pace times "
            + "the hours since.";

    private static void byItsLoss() {
        Check.sentence(0, CAN_BE);
        for (int pace = 1; pace <= 3; pace++) {
            for (int hours = 0; hours <= 6; hours++) {
                DogBoard b = Edges.lostAt(0, pace, hours);
                Check.due("pace " + pace + ", " + hours + " hours", () -> b.canBe(0),
                        AROUND_0[Math.min(5, pace * hours)]);
            }
        }
        DogBoard later = new DogBoard();
        later.hours(50);
        later.lose(15, 3, 0, 1);
        Check.due("in the hour of its loss", () -> later.canBe(0), 1);
        later.hours(1);
        Check.due("an hour behind its loss", () -> later.canBe(0), AROUND_0[3]);
    }

    private static void bySightings() {
        Check.sentence(0, CAN_BE);
        DogBoard b = Edges.lostAt(5, 1, 20);
        b.sight(0, 6, 15, 5, false);
        Check.due("five hours behind a sighting", () -> b.canBe(0), 0b1111_1111_1111);
        b.sight(0, 6, 15, 1, true);
        Check.due("an hour behind a sighting", () -> b.canBe(0), AT_1_OF_6);
        b.sight(0, 5, 15, 1, true);
        Check.due("an hour behind two", () -> b.canBe(0), 1 << 5 | 1 << 6);
        b.sight(0, 6, 15, 0, true);
        Check.due("at the hour of a sighting", () -> b.canBe(0), 1 << 6);
        b.sight(0, 0, 15, 0, true);
        Check.due("at the hour of two", () -> b.canBe(0), 0);
        b.hours(1);
        Check.due("an hour later, still nowhere", () -> b.canBe(0), 0);
        DogBoard loss = Edges.lostAt(5, 1, 1);
        loss.sight(0, 5, 15, 0, true);
        loss.undo();
        loss.sight(0, 5, 15, 1, true);
        Check.due("by the loss and a sighting in its hour", () -> loss.canBe(0), AT_1_OF_5);
        DogBoard fast = Edges.lostAt(5, 2, 20);
        fast.sight(0, 0, 15, 1, true);
        Check.due("a fast one, an hour behind a sighting", () -> fast.canBe(0), AROUND_0[2]);
    }

    private static void notByFrauds() {
        Check.sentence(0, CAN_BE);
        DogBoard b = Edges.lostAt(5, 1, 1);
        b.sight(0, 11, 15, 0, true);
        Check.due("not by one that is not true", () -> b.canBe(0), AT_1_OF_5);
        b.sight(0, 0, 240, 0, true);
        Check.due("not by one that means none", () -> b.canBe(0), AT_1_OF_5);
        b.lose(240, 1, 0, 1);
        b.sight(0, 0, 240, 0, true);
        Check.due("not by one that means another", () -> b.canBe(0), AT_1_OF_5);
        Check.due("but that other", () -> b.canBe(1), 1);
        b.sight(0, 6, 15, 0, true);
        Check.due("by one that is true", () -> b.canBe(0), 1 << 6);
        b.sight(0, 5, 15, 0, false);
        Check.due("not by one that fits none", () -> b.canBe(0), 1 << 6);
        b.close(5, 6, true);
        Check.due("by the other one, when that is not true any more", () -> b.canBe(0), 1 << 5);
    }

    private static void noWayThere() {
        Check.sentence(0, "no way is never enough");
        DogBoard b = Edges.lostAt(0, 3, 99);
        b.close(0, 1, true);
        Check.due("a way around", () -> b.canBe(0), 0b1111_1111_1111);
        b.close(0, 4, true);
        Check.due("no way out", () -> b.canBe(0), 1);
        b.close(0, 1, false);
        b.close(1, 2, true);
        b.close(1, 5, true);
        Check.due("no way out of two", () -> b.canBe(0), 0b11);
    }

    private static void canBeAnswersASet() {
        Check.sentence(18, "Returns the corners, as a set (bit c for the corner c).");
        for (int c = 0; c < 12; c++) {
            DogBoard b = Edges.lostAt(c, 1, 0);
            Check.due("at the corner " + c, () -> b.canBe(0), 1 << c);
        }
        Edges.onlyTells("canBe(1)", Edges::busy, b -> b.canBe(1), 0b1111_1111_1111);
    }

    private static void canBeNeedsADog() {
        Check.sentence(18, "Throws `IndexOutOfBoundsException` if there is no such dog");
        for (int d : Edges.NO_DOGS) {
            Edges.refuses("canBe(" + d + ")", Edges::busy, b -> b.canBe(d), Edges.BOUNDS);
        }
        Edges.refuses("canBe(0) without dogs", Edges::fresh, b -> b.canBe(0), Edges.BOUNDS);
        Edges.refuses("canBe(6) of six", Edges::withSixDogs, b -> b.canBe(6), Edges.BOUNDS);
        Edges.onlyTells("canBe(5) of six", Edges::withSixDogs, b -> b.canBe(5), 1 << 5);
    }

    private static void canBeNeedsAMissingDog() {
        Check.sentence(18, "Throws `IllegalStateException` if it is not missing");
        Edges.refuses("canBe(2), which is found", Edges::busy, b -> b.canBe(2), Edges.STATE);
        DogBoard b = Edges.lostAt(5, 1, 0);
        b.find(0, 0, 0);
        Check.due("as soon as it is found", () -> b.canBe(0), Edges.STATE);
        b.undo();
        Check.due("when it is missing again", () -> b.canBe(0), 1 << 5);
    }

    private static final String WATCH = "Returns the corner at which most missing dogs can be now (perhaps 0 of them), of "
            + "several that with the greatest rewards of these together, of several of those the lowest; NONE if no dog is "
            + "missing.";

    private static void watchesMostDogs() {
        Check.sentence(19, WATCH);
        DogBoard b = new DogBoard();
        b.lose(1, 1, 3, 500);
        b.lose(2, 1, 7, 1);
        b.lose(4, 1, 7, 1);
        Check.due("two of small rewards", () -> b.watch(), 7);
        b.lose(8, 1, 2, 1);
        b.lose(16, 1, 2, 1);
        b.lose(32, 1, 11, 1);
        Check.due("two of small rewards, the lowest", () -> b.watch(), 2);
        b.hours(1);
        Check.due("where five of six can be", () -> b.watch(), 3);
        b.find(0, 0, 3);
        Check.due("where four of five can be", () -> b.watch(), 3);
        b.find(1, 0, 3);
        Check.due("where three of four can be", () -> b.watch(), 3);
    }

    private static void watchesTheGreatestRewards() {
        Check.sentence(19, WATCH);
        DogBoard b = new DogBoard();
        b.lose(1, 1, 3, 30);
        b.lose(2, 1, 3, 30);
        b.lose(4, 1, 7, 10);
        b.lose(8, 1, 7, 51);
        Check.due("a coin more together", () -> b.watch(), 7);
        b.undo();
        b.lose(8, 1, 7, 50);
        Check.due("as many coins together", () -> b.watch(), 3);
        b.undo();
        b.lose(8, 1, 7, 49);
        Check.due("a coin less, with the greatest of all", () -> b.watch(), 3);
        DogBoard grown = new DogBoard();
        grown.lose(1, 1, 9, 10);
        grown.close(9, 5, true);
        grown.close(9, 8, true);
        grown.close(9, 10, true);
        grown.hours(10);
        grown.lose(2, 1, 0, 12);
        grown.close(0, 1, true);
        grown.close(0, 4, true);
        grown.hours(13);
        Check.due("rewards of 10 and 12", () -> grown.watch(), 0);
        grown.hours(1);
        Check.due("rewards of 15 and 12", () -> grown.watch(), 9);
        grown.hours(10);
        Check.due("rewards of 15 and 17", () -> grown.watch(), 0);
    }

    private static void watchesTheLowest() {
        Check.sentence(19, WATCH);
        for (int c = 0; c < 12; c++) {
            DogBoard one = Edges.lostAt(c, 1, 0);
            Check.due("the only corner " + c, () -> one.watch(), c);
            DogBoard all = Edges.lostAt(c, 3, 99);
            Check.due("all corners, lost at " + c, () -> all.watch(), 0);
        }
        int[] lowest = {0, 0, 1, 2, 0, 1, 2, 3, 4, 5, 6, 7};
        for (int c = 0; c < 12; c++) {
            DogBoard b = Edges.lostAt(c, 1, 1);
            Check.due("the lowest of those a street from " + c, () -> b.watch(), lowest[c]);
        }
        DogBoard two = new DogBoard();
        two.lose(1, 1, 11, 8);
        two.lose(2, 1, 4, 8);
        Check.due("the lower of two that are equal", () -> two.watch(), 4);
    }

    private static void watchesWhereNoneCanBe() {
        Check.sentence(19, "(perhaps 0 of them)");
        DogBoard b = Edges.lostAt(5, 1, 3);
        b.sight(0, 6, 15, 0, true);
        b.sight(0, 9, 15, 0, true);
        Check.due("it can be nowhere", () -> b.canBe(0), 0);
        Check.due("the lowest corner", () -> b.watch(), 0);
        b.lose(240, 1, 11, 1);
        Check.due("where another one can be", () -> b.watch(), 11);
    }

    private static void watchesNothing() {
        Check.sentence(19, "NONE if no dog is missing");
        Edges.onlyTells("watch without dogs", Edges::fresh, b -> b.watch(), -1);
        DogBoard b = Edges.lostAt(5, 1, 3);
        b.find(0, 0, 0);
        Check.due("all are found", () -> b.watch(), -1);
        b.undo();
        Check.due("one is missing", () -> b.watch(), 0);
        Check.sentence(19, "Finds the corner to be watched.");
        Edges.onlyTells("watch", Edges::busy, x -> x.watch(), 0);
    }
}
