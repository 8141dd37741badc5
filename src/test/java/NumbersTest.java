/** Promises 1 and 6 to 10: a new object, about, dogOf, sightingOf, purse, apart. */
public final class NumbersTest {
    public static void main(String[] args) {
        isNew();
        tellsOfTheBoard();
        tellsOfDogs();
        tellsOfSightings();
        tellsPurses();
        tellsFrauds();
        settlesWhenFound();
        measuresAnOpenQuarter();
        measuresAClosedQuarter();
        Check.end("NumbersTest");
    }

    private static void isNew() {
        DogBoard b = new DogBoard();
        int[] about = new int[11];
        for (int what = 0; what < about.length; what++) {
            Check.due("about " + what + " of a new board", b.about(what), 0);
        }
        for (int f = 0; f < 8; f++) {
            Check.due("purse " + f + " of a new board", b.purse(f), 0);
        }
        Check.due("NONE", DogBoard.NONE, -1);
        Check.due("the text of a new board", b.clearText(), 0);
        Check.due("undo of a new board", () -> b.undo(), Check.STATE);
        Check.due("restore of a new board", () -> b.restore(0), Check.STATE);
        Check.due("no dog", () -> b.dogOf(0, 0), Check.BOUNDS);
        Check.due("no sighting", () -> b.sightingOf(0, 0), Check.BOUNDS);
        Check.due("growth at first", b.set(0, 0), 5);
        Check.due("unlike marks at first", b.set(1, 0), 2);
    }

    private static void dueAbout(String when, DogBoard b, int... want) {
        for (int what = 0; what < want.length; what++) {
            Check.due("about " + what + " " + when, b.about(what), want[what]);
        }
    }

    private static void tellsOfTheBoard() {
        DogBoard b = new DogBoard();
        b.lose(15, 2, 5, 101);
        b.lose(240, 1, 0, 50);
        b.hours(3);
        b.sight(1, 6, 15, 0, true);
        b.sight(2, 11, 240, 0, true);
        b.sight(3, 6, 90, 0, true);
        b.close(0, 1, true);
        dueAbout("with a fraud and one that means none", b, 2, 2, 3, 3, 151, 0, 0, 151, 1, 1, 1);
        b.hours(21);
        dueAbout("a day later", b, 2, 2, 3, 24, 161, 0, 0, 161, 1, 1, 1);
        // The first dog's 106 coins by 3 + 3 parts of 6; all of them are given.
        Check.due("find", b.find(0, 4, 6), 53);
        dueAbout("with a dog found", b, 2, 1, 3, 24, 161, 106, 0, 55, 1, 1, 1);
        // The second dog's 55: its only sighting is a fraud.
        Check.due("find without help", b.find(1, 4, 11), 55);
        dueAbout("with both found", b, 2, 0, 3, 24, 161, 161, 0, 0, 1, 1, 1);
        Check.refused(b, "about(-1)", () -> b.about(-1), Check.ARGUMENT);
        Check.refused(b, "about(11)", () -> b.about(11), Check.ARGUMENT);

        DogBoard rest = new DogBoard();
        rest.lose(15, 2, 5, 100);
        rest.sight(1, 5, 15, 0, false);
        rest.sight(2, 5, 15, 0, true);
        // Help 3, 2 and 3 of 8: 37 + 25 + 37 coins, and 1 is left.
        Check.due("find with a rest", rest.find(0, 0, 5), 37);
        dueAbout("with a rest", rest, 1, 0, 2, 0, 100, 99, 1, 0, 0, 0, 0);
    }

    private static void dueDog(String when, DogBoard b, int d, int... want) {
        for (int what = 0; what < want.length; what++) {
            Check.due("dogOf " + d + ", " + what + " " + when, b.dogOf(d, what), want[what]);
        }
    }

    private static void tellsOfDogs() {
        DogBoard b = new DogBoard();
        b.hours(2);
        b.lose(240, 3, 7, 500);
        dueDog("as it is lost", b, 0, 240, 3, 7, 2, 500, 1, 0, 0, -1, -1, -1);
        b.sight(1, 7, 240, 0, true);
        b.sight(1, 0, 240, 0, true);
        dueDog("with a fraud", b, 0, 240, 3, 7, 2, 500, 1, 2, 1, -1, -1, -1);
        b.hours(30);
        b.find(0, 5, 9);
        dueDog("found", b, 0, 240, 3, 7, 2, 505, 0, 2, 1, 9, 5, 32);
        b.hours(99);
        dueDog("long found", b, 0, 240, 3, 7, 2, 505, 0, 2, 1, 9, 5, 32);
        Check.refused(b, "dogOf(-1, 0)", () -> b.dogOf(-1, 0), Check.BOUNDS);
        Check.refused(b, "dogOf(1, 0)", () -> b.dogOf(1, 0), Check.BOUNDS);
        Check.refused(b, "dogOf(1, 11)", () -> b.dogOf(1, 11), Check.BOUNDS);
        Check.refused(b, "dogOf(0, 11)", () -> b.dogOf(0, 11), Check.ARGUMENT);
        Check.refused(b, "dogOf(0, -1)", () -> b.dogOf(0, -1), Check.ARGUMENT);
    }

    private static void dueSeen(String when, DogBoard b, int s, int... want) {
        for (int what = 0; what < want.length; what++) {
            Check.due("sightingOf " + s + ", " + what + " " + when, b.sightingOf(s, what), want[what]);
        }
    }

    private static void tellsOfSightings() {
        DogBoard b = new DogBoard();
        b.lose(15, 1, 5, 10);
        b.hours(5);
        b.sight(7, 10, 12, 3, true);
        dueSeen("with a photo", b, 0, 7, 10, 2, 12, 1, 0, 2, 1, 0);
        b.sight(0, 3, 255, 0, false);
        dueSeen("that means none", b, 1, 0, 3, 5, 255, 0, -1, -1, -1, 0);
        b.sight(0, 8, 47, 4, true);
        dueSeen("that is not true", b, 2, 0, 8, 1, 47, 1, 0, 1, 0, 1);
        Check.refused(b, "sightingOf(-1, 0)", () -> b.sightingOf(-1, 0), Check.BOUNDS);
        Check.refused(b, "sightingOf(3, 0)", () -> b.sightingOf(3, 0), Check.BOUNDS);
        Check.refused(b, "sightingOf(3, 9)", () -> b.sightingOf(3, 9), Check.BOUNDS);
        Check.refused(b, "sightingOf(2, 9)", () -> b.sightingOf(2, 9), Check.ARGUMENT);
        Check.refused(b, "sightingOf(2, -1)", () -> b.sightingOf(2, -1), Check.ARGUMENT);
    }

    private static void tellsPurses() {
        DogBoard b = new DogBoard();
        b.lose(1, 1, 0, 90);
        b.sight(7, 0, 1, 0, true);
        b.find(0, 0, 0);
        Check.due("purse of who found", b.purse(0), 45);
        Check.due("purse of who saw", b.purse(7), 45);
        Check.due("purse of another", b.purse(3), 0);
        b.lose(1, 1, 0, 10);
        b.find(1, 7, 11);
        Check.due("purse of two rewards", b.purse(7), 55);
        Check.refused(b, "purse(-1)", () -> b.purse(-1), Check.BOUNDS);
        Check.refused(b, "purse(8)", () -> b.purse(8), Check.BOUNDS);
    }

    private static void tellsFrauds() {
        DogBoard b = new DogBoard();
        b.lose(15, 1, 0, 10);
        b.hours(5);
        b.sight(0, 5, 15, 0, false);
        Check.due("alone without a photo", b.sightingOf(0, 8), 0);
        b.sight(1, 6, 15, 0, true);
        Check.due("fits none of the others", b.sightingOf(0, 8), 1);
        Check.due("fits none, but has a photo", b.sightingOf(1, 8), 0);
        Check.due("a fraud may be true", b.sightingOf(0, 7), 1);
        b.sight(2, 5, 15, 0, false);
        Check.due("fits one at the same corner and hour", b.sightingOf(0, 8), 0);
        b.sight(3, 1, 15, 4, false);
        Check.due("fits one that is four hours later", b.sightingOf(3, 8), 0);
        b.sight(4, 11, 15, 4, false);
        Check.due("not true", b.sightingOf(4, 8), 1);
        Check.due("frauds in all", b.about(8), 1);

        DogBoard untrue = new DogBoard();
        untrue.lose(15, 1, 0, 10);
        untrue.hours(5);
        untrue.sight(0, 5, 15, 0, false);
        untrue.sight(1, 11, 15, 2, false);
        Check.due("another that is not true need not be fitted", untrue.sightingOf(0, 8), 0);

        DogBoard frauds = new DogBoard();
        frauds.lose(15, 1, 0, 10);
        frauds.hours(5);
        frauds.sight(0, 5, 15, 0, false);
        frauds.sight(1, 6, 15, 0, false);
        Check.due("two that fit none: the first", frauds.sightingOf(0, 8), 1);
        Check.due("two that fit none: the second", frauds.sightingOf(1, 8), 1);
        Check.due("two frauds leave no one honest", frauds.dogOf(0, 7), 0);

        DogBoard others = new DogBoard();
        others.lose(15, 1, 0, 10);
        others.lose(240, 1, 0, 10);
        others.hours(5);
        others.sight(0, 5, 15, 0, false);
        others.sight(1, 6, 240, 0, false);
        Check.due("a sighting of another dog need not be fitted", others.about(8), 0);

        DogBoard closed = new DogBoard();
        closed.lose(15, 1, 0, 10);
        closed.hours(1);
        closed.sight(0, 1, 15, 0, false);
        closed.close(0, 1, true);
        Check.due("not true as streets are now", closed.sightingOf(0, 7), 0);
        Check.due("a fraud as streets are now", closed.sightingOf(0, 8), 1);
        closed.close(0, 1, false);
        Check.due("true again", closed.sightingOf(0, 7), 1);
    }

    private static void settlesWhenFound() {
        DogBoard b = new DogBoard();
        b.lose(15, 1, 0, 100);
        b.hours(1);
        b.sight(0, 1, 15, 0, false);
        b.sight(1, 11, 15, 0, true);
        b.find(0, 2, 1);
        b.close(0, 1, true);
        b.close(0, 4, true);
        Check.due("true when it was found", b.sightingOf(0, 7), 1);
        Check.due("no fraud when it was found", b.sightingOf(0, 8), 0);
        Check.due("a fraud when it was found", b.sightingOf(1, 8), 1);
        Check.due("the frauds of found dogs count", b.about(8), 1);
        Check.due("those that are no frauds", b.dogOf(0, 7), 1);

        DogBoard shut = new DogBoard();
        shut.lose(15, 1, 0, 100);
        shut.hours(1);
        shut.close(0, 1, true);
        shut.sight(0, 1, 15, 0, false);
        Check.due("nothing for a fraud", shut.find(0, 2, 1), 100);
        shut.close(0, 1, false);
        Check.due("not true when it was found", shut.sightingOf(0, 7), 0);
        Check.due("a fraud though opened later", shut.sightingOf(0, 8), 1);
    }

    private static void measuresAnOpenQuarter() {
        DogBoard b = new DogBoard();
        for (int from = 0; from < 12; from++) {
            for (int to = 0; to < 12; to++) {
                int streets = Math.abs(from / 4 - to / 4) + Math.abs(from % 4 - to % 4);
                Check.due("apart " + from + ", " + to + ", 0", b.apart(from, to, 0), streets);
                Check.due("apart " + from + ", " + to + ", 1", b.apart(from, to, 1), streets);
            }
        }
        Check.refused(b, "apart(-1, 0, 0)", () -> b.apart(-1, 0, 0), Check.BOUNDS);
        Check.refused(b, "apart(0, 12, 1)", () -> b.apart(0, 12, 1), Check.BOUNDS);
        Check.refused(b, "apart(12, 0, 2)", () -> b.apart(12, 0, 2), Check.BOUNDS);
        Check.refused(b, "apart(0, 0, 2)", () -> b.apart(0, 0, 2), Check.ARGUMENT);
        Check.refused(b, "apart(0, 0, -1)", () -> b.apart(0, 0, -1), Check.ARGUMENT);
    }

    private static void measuresAClosedQuarter() {
        DogBoard b = new DogBoard();
        // What is left is one long way through all corners: 0 1 2 3 7 6 5 4 8 9 10 11.
        int[][] closed = {{0, 4}, {1, 5}, {2, 6}, {5, 9}, {6, 10}, {7, 11}};
        for (int[] street : closed) {
            b.close(street[0], street[1], true);
        }
        for (int way = 0; way <= 1; way++) {
            Check.due("the longest way " + way, b.apart(0, 11, way), 11);
            Check.due("the way back " + way, b.apart(11, 0, way), 11);
            Check.due("around a closed street " + way, b.apart(0, 4, way), 7);
        }
        b.close(4, 8, true);
        for (int way = 0; way <= 1; way++) {
            Check.due("no way " + way, b.apart(0, 11, way), -1);
            Check.due("no way back " + way, b.apart(8, 7, way), -1);
            Check.due("to itself " + way, b.apart(8, 8, way), 0);
            Check.due("in its part " + way, b.apart(8, 11, way), 3);
        }
    }
}
