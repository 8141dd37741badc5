/** Edges of sightings, and of the promises 8, sightingOf, 12, sight, and 20, meant. */
final class SightingEdges {
    private SightingEdges() {
    }

    static void run() {
        twentySightings();
        whatASightingHas();
        meansMissingDogs();
        meansDogsLostAhead();
        meansTheFewestUnlike();
        meansTheGreatestReward();
        meansNone();
        meaningStays();
        trueByPaceAndHours();
        trueByTheWayNow();
        fitsByPaceAndHours();
        fitsAtTheSameHour();
        fraudIfNotTrue();
        fraudIfItFitsNone();
        settledWhenFound();
        sightAnswersTheDog();
        sightTakesItsRanges();
        sightAgo();
        sightNeedsOnes();
        sightNeedsItsRanges();
        sightNeedsAPlace();
        numbersOfASighting();
        sightingOfNeedsASighting();
        sightingOfNeedsANumber();
        meantNow();
        meantNeedsMarks();
    }

    private static void twentySightings() {
        Check.sentence(0, "There are at most 20 sightings, numbered from 0.");
        DogBoard b = new DogBoard();
        for (int s = 0; s < 20; s++) {
            int last = s;
            Check.due("sighting " + s + " is not there yet", () -> b.sightingOf(last, 3), Edges.BOUNDS);
            Check.due("sight " + s, () -> b.sight(0, 0, last, 0, true), -1);
            Check.due("sighting " + s + " is there", () -> b.sightingOf(last, 3), s);
            Check.due("sightings", b.about(2), s + 1);
        }
        Check.due("a 21st", () -> b.sight(0, 0, 0, 0, true), Edges.STATE);
        Check.due("sighting 20", () -> b.sightingOf(20, 3), Edges.BOUNDS);
        b.undo();
        Check.due("a twentieth once more", () -> b.sight(0, 0, 99, 0, true), -1);
        Check.due("it is there", b.sightingOf(19, 3), 99);
    }

    private static void whatASightingHas() {
        Check.sentence(0, "A sighting has a finder (0 to 7), a corner, an hour, marks that were seen (a set of marks, "
                + "0 to 255), and perhaps a photo.");
        for (int f = 0; f < 8; f++) {
            DogBoard b = new DogBoard();
            int finder = f;
            Check.due("sight by " + f, () -> b.sight(finder, 11, 255, 0, finder % 2 == 0), -1);
            Check.due("its finder", b.sightingOf(0, 0), f);
            Check.due("its corner", b.sightingOf(0, 1), 11);
            Check.due("its hour", b.sightingOf(0, 2), 0);
            Check.due("its marks", b.sightingOf(0, 3), 255);
            Check.due("its photo", b.sightingOf(0, 4), 1 - f % 2);
        }
        for (int marks : new int[] {0, 1, 128, 254, 255}) {
            DogBoard b = new DogBoard();
            Check.due("sight of the marks " + marks, () -> b.sight(0, 0, marks, 0, false), -1);
            Check.due("its marks", b.sightingOf(0, 3), marks);
        }
    }

    private static final String MEANS = "It means the dog, of those that are missing when it is told, and were lost at "
            + "its hour or ahead of that, with the fewest unlike marks (marks that one has and the other has not); of "
            + "several the one with the greatest reward then, of several of those the lowest; none, if there is no such "
            + "dog, or the fewest unlike marks are more than setting 1.";

    private static void meansMissingDogs() {
        Check.sentence(0, MEANS);
        DogBoard b = new DogBoard();
        Check.due("no dogs", () -> b.sight(0, 0, 1, 0, true), -1);
        b.lose(1, 1, 0, 10);
        b.lose(3, 1, 0, 10);
        Check.due("both are missing", () -> b.sight(0, 0, 1, 0, true), 0);
        b.find(0, 0, 0);
        Check.due("one is missing", () -> b.sight(0, 0, 1, 0, true), 1);
        b.find(1, 0, 0);
        Check.due("none is missing", () -> b.sight(0, 0, 1, 0, true), -1);
        b.undo();
        b.undo();
        b.undo();
        b.undo();
        Check.due("both are missing again", () -> b.sight(0, 0, 1, 0, true), 0);
    }

    private static void meansDogsLostAhead() {
        Check.sentence(0, MEANS);
        DogBoard b = new DogBoard();
        b.hours(3);
        b.lose(1, 1, 0, 10);
        Check.due("at the hour of its loss", () -> b.sight(0, 0, 1, 0, true), 0);
        Check.due("an hour ahead of its loss", () -> b.sight(0, 0, 1, 1, true), -1);
        b.hours(2);
        Check.due("at the hour of its loss, told later", () -> b.sight(0, 0, 1, 2, true), 0);
        Check.due("an hour behind its loss", () -> b.sight(0, 0, 1, 1, true), 0);
        Check.due("an hour ahead of its loss, told later", () -> b.sight(0, 0, 1, 3, true), -1);
        b.lose(1, 1, 0, 500);
        Check.due("one lost now is not meant by what was seen ahead", () -> b.sight(0, 0, 1, 1, true), 0);
        Check.due("one lost now is meant by what is seen now", () -> b.sight(0, 0, 1, 0, true), 1);
    }

    private static void meansTheFewestUnlike() {
        Check.sentence(0, MEANS);
        DogBoard b = new DogBoard();
        b.set(1, 8);
        b.lose(0b0000_1111, 1, 0, 1);
        b.lose(0b0011_1111, 1, 0, 500);
        Check.due("one mark less than the dog has", () -> b.sight(0, 0, 0b0000_0111, 0, true), 0);
        Check.due("one unlike mark, three of the other", b.sightingOf(0, 6), 1);
        Check.due("one less, and as many more", () -> b.sight(0, 0, 0b0001_1111, 0, true), 1);
        Check.due("all other marks", () -> b.sight(0, 0, 0b1100_0000, 0, true), 0);
        Check.due("six unlike marks, and not eight", b.sightingOf(2, 6), 6);
        Check.due("marks that both have and have not", () -> b.sight(0, 0, 0b1111_0000, 0, true), 1);
        Check.due("four less, and two more", b.sightingOf(3, 6), 6);
        Check.due("no marks", () -> b.sight(0, 0, 0, 0, true), 0);
        Check.due("four of none", b.sightingOf(4, 6), 4);
        Check.due("all marks", () -> b.sight(0, 0, 255, 0, true), 1);
        Check.due("two of all", b.sightingOf(5, 6), 2);
    }

    private static void meansTheGreatestReward() {
        Check.sentence(0, MEANS);
        DogBoard b = new DogBoard();
        b.lose(1, 1, 0, 9);
        b.lose(1, 1, 0, 10);
        b.lose(1, 1, 0, 10);
        Check.due("the lowest of the greatest", () -> b.sight(0, 0, 1, 0, true), 1);
        b.lose(1, 1, 0, 11);
        Check.due("a coin more", () -> b.sight(0, 0, 1, 0, true), 3);
        b.lose(3, 1, 0, 500);
        Check.due("a reward does not make up for a mark", () -> b.sight(0, 0, 1, 0, true), 3);
        DogBoard grown = new DogBoard();
        grown.lose(1, 1, 0, 10);
        grown.hours(1);
        grown.lose(1, 1, 0, 14);
        grown.hours(22);
        Check.due("ahead of the day", () -> grown.sight(0, 0, 1, 0, true), 1);
        grown.hours(1);
        Check.due("the reward has grown", () -> grown.sight(0, 0, 1, 0, true), 0);
        Check.due("the reward as it is told, and not as it was seen", () -> grown.sight(0, 0, 1, 5, true), 0);
        grown.hours(1);
        Check.due("the other one has grown too", () -> grown.sight(0, 0, 1, 0, true), 1);
    }

    private static void meansNone() {
        Check.sentence(0, MEANS);
        for (int most = 0; most <= 8; most++) {
            DogBoard b = new DogBoard();
            b.set(1, most);
            b.lose(255, 1, 0, 10);
            for (int unlike = 0; unlike <= 8; unlike++) {
                int marks = 255 >> unlike;
                Check.due(unlike + " unlike marks of at most " + most, () -> b.sight(0, 0, marks, 0, true),
                        unlike <= most ? 0 : -1);
            }
        }
        DogBoard first = new DogBoard();
        first.lose(0b111, 1, 0, 10);
        Check.due("two unlike marks at first", () -> first.sight(0, 0, 0b100, 0, true), 0);
        Check.due("three unlike marks at first", () -> first.sight(0, 0, 0, 0, true), -1);
    }

    private static void meaningStays() {
        Check.sentence(0, "What it means does not change later.");
        DogBoard b = new DogBoard();
        b.lose(1, 1, 0, 10);
        b.sight(0, 0, 3, 0, true);
        b.sight(0, 0, 255, 0, true);
        b.lose(3, 1, 0, 500);
        Check.due("a dog that is more like it", b.sightingOf(0, 5), 0);
        b.set(1, 0);
        Check.due("fewer unlike marks", b.sightingOf(0, 5), 0);
        b.set(1, 8);
        Check.due("none, with more unlike marks", b.sightingOf(1, 5), -1);
        b.hours(99);
        b.find(0, 0, 0);
        Check.due("the dog is found", b.sightingOf(0, 5), 0);
        Check.due("its unlike marks then", b.sightingOf(0, 6), 1);
        Check.due("none in the end", b.sightingOf(1, 5), -1);
    }

    private static final String TRUE = "A sighting is true to a dog if the dog could have been there: from the corner "
            + "where it was lost to this corner the way is at most its pace times the hours between (the way as streets "
            + "are now; no way is never enough).";

    private static void trueByPaceAndHours() {
        Check.sentence(0, TRUE);
        // The corners that are 0 to 5 streets from the corner 0.
        int[] corners = {0, 1, 2, 3, 7, 11};
        int[] lost = {0, 0, 30, 30};
        int[] told = {0, 2, 0, 2};
        for (int pace = 1; pace <= 3; pace++) {
            for (int hours = 0; hours <= 3; hours++) {
                for (int i = 0; i < lost.length; i++) {
                    DogBoard b = new DogBoard();
                    Edges.pass(b, lost[i]);
                    b.lose(15, pace, 0, 100);
                    Edges.pass(b, hours + told[i]);
                    for (int streets = 0; streets < corners.length; streets++) {
                        b.sight(0, corners[streets], 15, told[i], true);
                        Check.due(streets + " streets, pace " + pace + ", lost in the hour " + lost[i] + ", seen " + hours
                                + " hours later, told " + told[i] + " later", b.sightingOf(streets, 7),
                                streets <= pace * hours ? 1 : 0);
                    }
                }
            }
        }
    }

    private static void trueByTheWayNow() {
        Check.sentence(0, TRUE);
        DogBoard b = Edges.lostAt(0, 1, 1);
        b.sight(0, 1, 15, 0, true);
        b.hours(99);
        Check.due("as streets are at first", b.sightingOf(0, 7), 1);
        b.close(0, 1, true);
        Check.due("the street is closed later", b.sightingOf(0, 7), 0);
        b.close(0, 1, false);
        Check.due("it is opened again", b.sightingOf(0, 7), 1);
        DogBoard cut = Edges.lostAt(0, 3, 500);
        cut.close(0, 1, true);
        cut.close(0, 4, true);
        cut.sight(0, 1, 15, 0, true);
        cut.sight(0, 0, 15, 0, true);
        Check.due("no way, though it has all the time", cut.sightingOf(0, 7), 0);
        Check.due("where it was lost", cut.sightingOf(1, 7), 1);
    }

    /** Whether a sighting at 5 fits one at another corner with a photo, so many hours ahead of it or behind it. */
    private static boolean fits(int pace, int otherCorner, int apart, boolean otherIsLater) {
        DogBoard b = Edges.lostAt(1, pace, 20);
        b.sight(0, 5, 15, otherIsLater ? apart : 0, false);
        b.sight(1, otherCorner, 15, otherIsLater ? 0 : apart, true);
        Check.due("the other one is true", b.sightingOf(1, 7), 1);
        return b.sightingOf(0, 8) == 0;
    }

    private static final String FITS = "It fits another sighting that means the same dog if the way between both corners "
            + "is at most the pace times the hours between them, whichever was first (so at the same hour only at the "
            + "same corner).";

    private static void fitsByPaceAndHours() {
        Check.sentence(0, FITS);
        // The corners that are 0 to 3 streets from the corner 5.
        int[] corners = {5, 6, 7, 3};
        for (int pace = 1; pace <= 3; pace++) {
            for (int streets = 0; streets < corners.length; streets++) {
                for (int hours = 0; hours <= 3; hours++) {
                    boolean due = streets <= pace * hours;
                    String what = streets + " streets, pace " + pace + ", " + hours + " hours";
                    Check.isTrue(what + " ahead: " + due, fits(pace, corners[streets], hours, false) == due);
                    Check.isTrue(what + " behind: " + due, fits(pace, corners[streets], hours, true) == due);
                }
            }
        }
        DogBoard b = Edges.lostAt(1, 1, 20);
        b.sight(0, 5, 15, 0, false);
        b.sight(1, 6, 15, 1, true);
        b.close(5, 6, true);
        Check.due("the way between as streets are now", b.sightingOf(0, 8), 1);
        b.close(5, 6, false);
        Check.due("the street is opened", b.sightingOf(0, 8), 0);
    }

    private static void fitsAtTheSameHour() {
        Check.sentence(0, "(so at the same hour only at the same corner)");
        Check.isTrue("the same corner", fits(1, 5, 0, false));
        Check.isTrue("a street away, with the greatest pace", !fits(3, 6, 0, false));
        Check.isTrue("a street away, with the greatest pace, told first", !fits(3, 6, 0, true));
        Check.sentence(0, "that means the same dog");
        DogBoard b = Edges.lostAt(1, 1, 20);
        b.lose(240, 1, 5, 10);
        b.sight(0, 5, 15, 0, false);
        b.sight(1, 5, 240, 0, true);
        b.sight(2, 6, 15, 0, true);
        Check.due("it fits only one of another dog", b.sightingOf(0, 8), 1);
        b.undo();
        Check.due("one of another dog need not be fitted", b.sightingOf(0, 8), 0);
    }

    private static final String FRAUD = "A sighting is a fraud if it means a dog, and is not true to it, or if it means a "
            + "dog, has no photo, and there are other sightings that mean this dog and are true to it, but it fits none of "
            + "these.";

    private static void fraudIfNotTrue() {
        Check.sentence(0, FRAUD);
        DogBoard b = Edges.lostAt(0, 1, 4);
        b.sight(0, 11, 15, 0, true);
        Check.due("not true, with a photo", b.sightingOf(0, 8), 1);
        b.sight(0, 11, 15, 0, false);
        Check.due("not true, fits another that is not true", b.sightingOf(1, 8), 1);
        b.sight(0, 11, 240, 0, false);
        Check.due("means none", b.sightingOf(2, 8), 0);
        b.sight(0, 7, 15, 0, false);
        Check.due("true, alone with some that are not", b.sightingOf(3, 8), 0);
        Check.due("frauds", b.about(8), 2);
        b.hours(1);
        Check.due("hours that go by don't make it true", b.sightingOf(0, 8), 1);
    }

    private static void fraudIfItFitsNone() {
        Check.sentence(0, FRAUD);
        DogBoard b = Edges.lostAt(0, 1, 5);
        b.sight(0, 5, 15, 0, false);
        Check.due("no others", b.sightingOf(0, 8), 0);
        b.sight(1, 7, 15, 0, false);
        Check.due("two that fit not: the one", b.sightingOf(0, 8), 1);
        Check.due("two that fit not: the other", b.sightingOf(1, 8), 1);
        Check.due("both are true", b.sightingOf(0, 7) + b.sightingOf(1, 7), 2);
        b.sight(2, 6, 15, 1, false);
        Check.due("it fits a third", b.sightingOf(0, 8), 0);
        Check.due("the other fits the third", b.sightingOf(1, 8), 0);
        Check.due("the third fits both", b.sightingOf(2, 8), 0);
        b.sight(3, 10, 15, 0, true);
        Check.due("with a photo it need fit none", b.sightingOf(3, 8), 0);
        b.sight(4, 2, 15, 0, false);
        Check.due("one of several is enough", b.sightingOf(4, 8), 0);
        b.sight(4, 0, 15, 0, false);
        Check.due("none of several", b.sightingOf(5, 8), 1);
        Check.due("frauds", b.about(8), 1);
        DogBoard photo = Edges.lostAt(0, 1, 5);
        photo.sight(0, 5, 15, 0, false);
        photo.sight(1, 5, 15, 0, true);
        Check.due("it fits one with a photo", photo.sightingOf(0, 8), 0);
        photo.undo();
        photo.sight(1, 6, 15, 0, true);
        Check.due("it fits not the one with a photo", photo.sightingOf(0, 8), 1);
        Check.due("which fits not it", photo.sightingOf(1, 8), 0);
    }

    private static void settledWhenFound() {
        Check.sentence(0, "When a dog is found, it is settled which sightings that mean it are true to it, and which are "
                + "frauds, as they are then; what is closed or opened later does not matter for them.");
        DogBoard b = Edges.lostAt(0, 1, 1);
        b.sight(0, 1, 15, 0, true);
        b.sight(1, 4, 15, 0, true);
        b.close(0, 4, true);
        b.find(0, 7, 0);
        b.close(0, 1, true);
        b.close(0, 4, false);
        Check.due("true then, closed later", b.sightingOf(0, 7), 1);
        Check.due("no fraud then, closed later", b.sightingOf(0, 8), 0);
        Check.due("not true then, opened later", b.sightingOf(1, 7), 0);
        Check.due("a fraud then, opened later", b.sightingOf(1, 8), 1);
        Check.due("frauds", b.about(8), 1);
        Check.due("no frauds of the dog", b.dogOf(0, 7), 1);
        b.undo();
        b.undo();
        b.undo();
        b.close(0, 1, true);
        Check.due("not settled when the find is taken back", b.sightingOf(0, 8), 1);
        DogBoard unfit = Edges.lostAt(1, 1, 9);
        unfit.sight(0, 5, 15, 0, false);
        unfit.sight(1, 6, 15, 1, true);
        unfit.close(5, 6, true);
        unfit.find(0, 7, 0);
        unfit.close(5, 6, false);
        Check.due("fitted none then, though true", unfit.sightingOf(0, 8), 1);
        Check.due("true then", unfit.sightingOf(0, 7), 1);
    }

    private static void sightAnswersTheDog() {
        Check.sentence(12, "Returns the dog that it means; NONE if it means none.");
        DogBoard b = new DogBoard();
        for (int d = 0; d < 6; d++) {
            b.lose(1 << d, 1, 0, 1);
        }
        b.set(1, 0);
        for (int d = 0; d < 6; d++) {
            int marks = 1 << d;
            Check.due("the dog " + d, () -> b.sight(0, 11, marks, 0, false), d);
        }
        Check.due("none", () -> b.sight(0, 11, 64, 0, false), -1);
        Check.due("those that mean none", b.about(9), 1);
    }

    private static void sightTakesItsRanges() {
        Check.sentence(12, "`finder`: 0 to 7");
        for (int f = -1; f <= 8; f++) {
            int finder = f;
            Check.due("sight by " + f, () -> Edges.busy().sight(finder, 0, 0, 0, true), f == -1 || f == 8 ? Edges.BOUNDS : -1);
        }
        Check.sentence(12, "`marks`: 0 to 255");
        for (int marks = -1; marks <= 256; marks++) {
            int seen = marks;
            Check.due("sight of the marks " + marks, () -> Edges.fresh().sight(0, 0, seen, 0, true),
                    marks == -1 || marks == 256 ? Edges.ARGUMENT : -1);
        }
        Check.sentence(12, "`photo`: whether there is a photo");
        DogBoard b = new DogBoard();
        b.sight(0, 0, 0, 0, true);
        b.sight(0, 0, 0, 0, false);
        Check.due("with a photo", b.sightingOf(0, 4), 1);
        Check.due("without a photo", b.sightingOf(1, 4), 0);
    }

    private static void sightAgo() {
        Check.sentence(12, "`ago`: 0 to 99: how many hours ago it was (an hour that is 0 or more)");
        DogBoard b = Edges.lostAt(0, 1, 99);
        Check.due("now", () -> b.sight(0, 0, 15, 0, true), 0);
        Check.due("99 hours ago, in the hour 0", () -> b.sight(0, 0, 15, 99, true), 0);
        Check.due("the hour of now", b.sightingOf(0, 2), 99);
        Check.due("the hour 0", b.sightingOf(1, 2), 0);
        Check.due("100 hours ago, in the hour -1", () -> b.sight(0, 0, 15, 100, true), Edges.ARGUMENT);
        b.hours(2);
        Check.due("99 hours ago, in the hour 2", () -> b.sight(0, 0, 15, 99, true), 0);
        Check.due("the hour 2", b.sightingOf(2, 2), 2);
        Check.due("100 hours ago, in the hour 1", () -> b.sight(0, 0, 15, 100, true), Edges.ARGUMENT);
        DogBoard early = Edges.lostAt(0, 1, 98);
        Check.due("98 hours ago, in the hour 0", () -> early.sight(0, 0, 15, 98, true), 0);
        Check.due("99 hours ago, in the hour -1", () -> early.sight(0, 0, 15, 99, true), Edges.ARGUMENT);
        DogBoard first = new DogBoard();
        Check.due("an hour ago in the first hour", () -> first.sight(0, 0, 15, 1, true), Edges.ARGUMENT);
        Check.due("now in the first hour", () -> first.sight(0, 0, 15, 0, true), -1);
    }

    private static void sightNeedsOnes() {
        Check.sentence(12, "Throws `IndexOutOfBoundsException` if there is no such finder or corner");
        for (int f : Edges.NO_FINDERS) {
            Edges.refuses("sight by " + f, Edges::busy, b -> b.sight(f, 0, 0, 0, true), Edges.BOUNDS);
            Edges.refuses("sight by " + f + " of the marks 256", Edges::busy, b -> b.sight(f, 0, 256, 0, true),
                    Edges.BOUNDS);
            Edges.refuses("a 21st by " + f, Edges::withTwentySightings, b -> b.sight(f, 0, 0, 0, true), Edges.BOUNDS);
        }
        for (int c : Edges.NO_CORNERS) {
            Edges.refuses("sight at " + c, Edges::busy, b -> b.sight(7, c, 0, 0, true), Edges.BOUNDS);
            Edges.refuses("sight at " + c + ", 32 hours ago", Edges::busy, b -> b.sight(7, c, 0, 32, true), Edges.BOUNDS);
            Edges.refuses("a 21st at " + c, Edges::withTwentySightings, b -> b.sight(7, c, 0, 0, true), Edges.BOUNDS);
        }
        Edges.refuses("all wrong", Edges::withTwentySightings, b -> b.sight(8, 12, 256, 100, true), Edges.BOUNDS);
    }

    private static void sightNeedsItsRanges() {
        Check.sentence(12, "Throws `IllegalArgumentException` if marks or ago is out of range, or the hour would be below 0");
        for (Edges.Maker maker : new Edges.Maker[] {Edges::busy, Edges::withTwentySightings}) {
            for (int marks : new int[] {Integer.MIN_VALUE, -1, 256, Integer.MAX_VALUE}) {
                Edges.refuses("sight of the marks " + marks, maker, b -> b.sight(0, 0, marks, 0, true), Edges.ARGUMENT);
            }
            for (int ago : new int[] {Integer.MIN_VALUE, -1, 32, 99, 100, Integer.MAX_VALUE}) {
                Edges.refuses("sight " + ago + " hours ago", maker, b -> b.sight(0, 0, 0, ago, true), Edges.ARGUMENT);
            }
        }
        Check.due("the least of all", () -> Edges.busy().sight(0, 0, 0, 0, false), -1);
        Check.due("the most of all", () -> Edges.busy().sight(7, 11, 255, 31, true), -1);
    }

    private static void sightNeedsAPlace() {
        Check.sentence(12, "Throws `IllegalStateException` if there are 20 sightings");
        Edges.refuses("a 21st", Edges::withTwentySightings, b -> b.sight(0, 0, 0, 0, true), Edges.STATE);
        Edges.refuses("a 21st that means a dog", Edges::withTwentySightings, b -> b.sight(7, 11, 15, 31, false),
                Edges.STATE);
        DogBoard b = Edges.withTwentySightings();
        b.undo();
        Check.due("a twentieth", () -> b.sight(7, 5, 15, 31, false), 0);
    }

    private static void due(DogBoard b, int s, int... want) {
        for (int what = 0; what < want.length; what++) {
            Check.due("sightingOf(" + s + ", " + what + ")", b.sightingOf(s, what), want[what]);
        }
    }

    private static void numbersOfASighting() {
        Check.sentence(8, "- `what`: 0: its finder; 1: its corner; 2: its hour; 3: its marks; 4: 1 if it has a photo, "
                + "otherwise 0; 5: the dog that it means, NONE without one; 6: the marks that are unlike those of this dog, how many, "
                + "NONE likewise; 7: 1 if it is true to this dog, otherwise 0, NONE likewise; 8: 1 if it is a fraud, "
                + "otherwise 0");
        DogBoard b = Edges.busy();
        due(b, 0, 1, 6, 28, 15, 1, 0, 0, 1, 0);
        due(b, 1, 2, 4, 10, 14, 0, 0, 1, 1, 0);
        due(b, 2, 3, 11, 1, 240, 1, 1, 0, 0, 1);
        due(b, 3, 4, 0, 30, 90, 0, -1, -1, -1, 0);
        due(b, 4, 5, 10, 30, 3, 1, 2, 0, 1, 0);
        b.find(0, 0, 0);
        b.find(1, 0, 0);
        due(b, 0, 1, 6, 28, 15, 1, 0, 0, 1, 0);
        due(b, 2, 3, 11, 1, 240, 1, 1, 0, 0, 1);
        due(b, 3, 4, 0, 30, 90, 0, -1, -1, -1, 0);
        DogBoard most = new DogBoard();
        most.set(1, 8);
        most.lose(255, 1, 0, 1);
        most.sight(7, 11, 0, 0, true);
        due(most, 0, 7, 11, 0, 0, 1, 0, 8, 0, 1);
    }

    private static void sightingOfNeedsASighting() {
        Check.sentence(8, "Throws `IndexOutOfBoundsException` if there is no such sighting");
        for (int s : new int[] {Integer.MIN_VALUE, -1, 5, 6, 20, Integer.MAX_VALUE}) {
            for (int what : new int[] {-1, 0, 8, 9}) {
                Edges.refuses("sightingOf(" + s + ", " + what + ")", Edges::busy, b -> b.sightingOf(s, what),
                        Edges.BOUNDS);
            }
        }
        Edges.refuses("sightingOf(0, 0) without sightings", Edges::fresh, b -> b.sightingOf(0, 0), Edges.BOUNDS);
        Edges.refuses("sightingOf(20, 0) of twenty", Edges::withTwentySightings, b -> b.sightingOf(20, 0), Edges.BOUNDS);
        Edges.onlyTells("sightingOf(19, 2) of twenty", Edges::withTwentySightings, b -> b.sightingOf(19, 2), 31);
    }

    private static void sightingOfNeedsANumber() {
        Check.sentence(8, "Throws `IllegalArgumentException` if what is not 0 to 8");
        for (int what : new int[] {Integer.MIN_VALUE, -1, 9, 10, Integer.MAX_VALUE}) {
            Edges.refuses("sightingOf(0, " + what + ")", Edges::busy, b -> b.sightingOf(0, what), Edges.ARGUMENT);
            Edges.refuses("sightingOf(3, " + what + ")", Edges::busy, b -> b.sightingOf(3, what), Edges.ARGUMENT);
        }
        Edges.onlyTells("sightingOf(2, 0)", Edges::busy, b -> b.sightingOf(2, 0), 3);
        Edges.onlyTells("sightingOf(2, 8)", Edges::busy, b -> b.sightingOf(2, 8), 1);
    }

    private static void meantNow() {
        Check.sentence(20, "Returns the dog that a sighting with these marks, told now and of now, would mean; NONE if none.");
        Edges.onlyTells("without dogs", Edges::fresh, b -> b.meant(1), -1);
        Edges.onlyTells("three unlike marks of at most three", Edges::busy, b -> b.meant(1), 0);
        Edges.onlyTells("four unlike marks of at most three", Edges::busy, b -> b.meant(0), -1);
        Edges.onlyTells("all marks", Edges::busy, b -> b.meant(255), -1);
        Edges.onlyTells("of the other dog", Edges::busy, b -> b.meant(128), 1);
        Edges.onlyTells("though there are 20 sightings", Edges::withTwentySightings, b -> b.meant(15), 0);
        DogBoard b = new DogBoard();
        b.hours(7);
        b.lose(7, 1, 0, 10);
        Check.due("a dog that is lost now", () -> b.meant(7), 0);
        Check.due("two unlike marks", () -> b.meant(1), 0);
        Check.due("three unlike marks", () -> b.meant(0), -1);
        b.lose(7, 1, 0, 10);
        Check.due("the lowest of equals", () -> b.meant(7), 0);
        b.lose(7, 1, 0, 11);
        Check.due("the greatest reward", () -> b.meant(7), 2);
        b.find(2, 0, 0);
        b.find(0, 0, 0);
        Check.due("of those that are missing", () -> b.meant(7), 1);
        b.find(1, 0, 0);
        Check.due("none is missing", () -> b.meant(7), -1);
    }

    private static void meantNeedsMarks() {
        Check.sentence(20, "Throws `IllegalArgumentException` if marks is out of range");
        for (int marks : new int[] {Integer.MIN_VALUE, -1, 256, Integer.MAX_VALUE}) {
            Edges.refuses("meant(" + marks + ")", Edges::busy, b -> b.meant(marks), Edges.ARGUMENT);
        }
        Check.sentence(20, "`marks`: 0 to 255");
        DogBoard b = new DogBoard();
        b.set(1, 8);
        b.lose(170, 1, 0, 1);
        for (int marks = 0; marks <= 255; marks++) {
            int seen = marks;
            Check.due("meant(" + marks + ")", () -> b.meant(seen), 0);
        }
    }
}
