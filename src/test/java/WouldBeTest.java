/** Promises 18 to 21: canBe, watch, meant, ifFound. */
public final class WouldBeTest {
    public static void main(String[] args) {
        tellsWhereADogCanBe();
        refusesCanBe();
        watches();
        tellsMeant();
        tellsShares();
        refusesIfFound();
        changesNothing();
        Check.end("WouldBeTest");
    }

    private static int corners(int... all) {
        int set = 0;
        for (int c : all) {
            set |= 1 << c;
        }
        return set;
    }

    private static void tellsWhereADogCanBe() {
        DogBoard b = new DogBoard();
        b.lose(15, 1, 5, 10);
        b.lose(240, 3, 0, 10);
        Check.due("canBe at once", () -> b.canBe(0), corners(5));
        b.hours(1);
        Check.due("canBe an hour later", () -> b.canBe(0), corners(5, 1, 4, 6, 9));
        Check.due("canBe of a fast one", () -> b.canBe(1), corners(0, 1, 2, 3, 4, 5, 6, 8, 9));
        b.sight(0, 6, 15, 0, true);
        Check.due("canBe as it was just seen", () -> b.canBe(0), corners(6));
        b.hours(1);
        Check.due("canBe by a sighting and the loss", () -> b.canBe(0), corners(2, 5, 6, 7, 10));
        b.close(6, 2, true);
        b.close(6, 7, true);
        Check.due("canBe as streets are closed", () -> b.canBe(0), corners(5, 6, 10));
        b.sight(1, 11, 15, 1, true);
        Check.due("a fraud does not count", () -> b.canBe(0), corners(5, 6, 10));
        b.sight(1, 1, 15, 1, true);
        Check.due("two that can't both be", () -> b.canBe(0), corners(5));
        b.sight(1, 0, 15, 0, true);
        Check.due("nowhere", () -> b.canBe(0), corners());
        b.lose(15, 2, 11, 1);
        Check.due("canBe of one that is lost later", () -> b.canBe(2), corners(11));
        b.hours(1);
        Check.due("canBe of it an hour later", () -> b.canBe(2), corners(3, 6, 7, 9, 10, 11));
    }

    private static void refusesCanBe() {
        DogBoard b = new DogBoard();
        Check.refused(b, "canBe without dogs", () -> b.canBe(0), Check.BOUNDS);
        b.lose(15, 1, 5, 10);
        Check.refused(b, "canBe(-1)", () -> b.canBe(-1), Check.BOUNDS);
        Check.refused(b, "canBe(1)", () -> b.canBe(1), Check.BOUNDS);
        b.find(0, 0, 0);
        Check.refused(b, "canBe of a found one", () -> b.canBe(0), Check.STATE);
    }

    private static void watches() {
        DogBoard b = new DogBoard();
        Check.due("watch without dogs", () -> b.watch(), -1);
        b.lose(15, 1, 5, 10);
        Check.due("watch one", () -> b.watch(), 5);
        b.undo();
        b.lose(15, 1, 1, 10);
        Check.due("watch one at the corner 1", () -> b.watch(), 1);
        b.undo();
        b.lose(15, 1, 11, 10);
        Check.due("watch one at the corner 11", () -> b.watch(), 11);
        b.undo();
        b.lose(15, 1, 5, 10);
        b.lose(240, 1, 9, 20);
        Check.due("watch the greater reward", () -> b.watch(), 9);
        b.lose(3, 1, 5, 1);
        Check.due("watch more dogs", () -> b.watch(), 5);
        b.hours(1);
        Check.due("watch all three, the lowest corner", () -> b.watch(), 5);
        b.find(0, 0, 0);
        b.find(2, 0, 0);
        Check.due("watch where a found one is not counted", () -> b.watch(), 5);
        b.close(5, 9, true);
        Check.due("watch as streets are closed", () -> b.watch(), 8);
        b.sight(0, 10, 240, 0, true);
        b.sight(0, 8, 240, 0, true);
        Check.due("watch where none can be", () -> b.watch(), 0);
        b.find(1, 0, 0);
        Check.due("watch when all are found", () -> b.watch(), -1);

        DogBoard sums = new DogBoard();
        sums.lose(1, 1, 3, 30);
        sums.lose(1, 1, 3, 30);
        sums.lose(2, 1, 7, 10);
        sums.lose(2, 1, 7, 51);
        Check.due("watch the greater sum of two rewards", () -> sums.watch(), 7);
        sums.undo();
        sums.lose(2, 1, 7, 50);
        Check.due("watch the lowest of equal sums", () -> sums.watch(), 3);
    }

    private static void tellsMeant() {
        DogBoard b = new DogBoard();
        Check.due("meant without dogs", () -> b.meant(0), -1);
        b.lose(15, 1, 5, 10);
        b.lose(15, 1, 5, 20);
        b.lose(60, 1, 5, 5);
        Check.due("meant of the greatest reward", () -> b.meant(15), 1);
        Check.due("meant of the fewest unlike marks", () -> b.meant(28), 2);
        Check.due("meant of as many unlike marks", () -> b.meant(12), 1);
        Check.due("meant by none", () -> b.meant(255), -1);
        b.set(1, 4);
        Check.due("meant with more unlike marks", () -> b.meant(255), 1);
        Check.due("meant by no marks", () -> b.meant(0), 1);
        b.find(1, 0, 0);
        Check.due("meant of those missing", () -> b.meant(15), 0);
        Check.refused(b, "meant(-1)", () -> b.meant(-1), Check.ARGUMENT);
        Check.refused(b, "meant(256)", () -> b.meant(256), Check.ARGUMENT);
        for (int s = 0; s < 20; s++) {
            b.sight(0, 0, 0, 0, false);
        }
        Check.due("meant though the sightings are full", () -> b.meant(15), 0);
    }

    private static void tellsShares() {
        DogBoard b = new DogBoard();
        b.lose(15, 2, 5, 100);
        b.hours(4);
        b.sight(0, 6, 15, 0, true);
        b.sight(1, 7, 15, 1, false);
        b.sight(3, 11, 15, 3, true);
        // Found at 6 by finder 2: 3 for finder 0, 2 for finder 1, a fraud by finder 3, and 3: 8 in all.
        Check.due("ifFound, the one who finds", () -> b.ifFound(0, 2, 6, 2), 37);
        Check.due("ifFound, a sighting with a photo", () -> b.ifFound(0, 2, 6, 0), 37);
        Check.due("ifFound, a sighting without", () -> b.ifFound(0, 2, 6, 1), 25);
        Check.due("ifFound, a fraud", () -> b.ifFound(0, 2, 6, 3), 0);
        Check.due("ifFound, another", () -> b.ifFound(0, 2, 6, 7), 0);
        Check.due("ifFound by one who saw it", () -> b.ifFound(0, 0, 6, 0), 75);
        // Found at 0: both are further than a street away, 2 + 1 + 3.
        Check.due("ifFound far away", () -> b.ifFound(0, 2, 0, 2), 50);
        b.close(6, 7, true);
        // The sighting at 7 doesn't fit the one at 6 any more: 2 for finder 0, not near now, and 3.
        Check.due("ifFound as streets are closed", () -> b.ifFound(0, 2, 7, 0), 40);
        Check.due("ifFound, a fraud as streets are closed", () -> b.ifFound(0, 2, 7, 1), 0);
    }

    private static void refusesIfFound() {
        DogBoard b = new DogBoard();
        Check.refused(b, "ifFound without dogs", () -> b.ifFound(0, 0, 0, 0), Check.BOUNDS);
        b.lose(15, 2, 5, 100);
        Check.refused(b, "ifFound(-1, 0, 0, 0)", () -> b.ifFound(-1, 0, 0, 0), Check.BOUNDS);
        Check.refused(b, "ifFound(1, 0, 0, 0)", () -> b.ifFound(1, 0, 0, 0), Check.BOUNDS);
        Check.refused(b, "ifFound(0, -1, 0, 0)", () -> b.ifFound(0, -1, 0, 0), Check.BOUNDS);
        Check.refused(b, "ifFound(0, 8, 0, 0)", () -> b.ifFound(0, 8, 0, 0), Check.BOUNDS);
        Check.refused(b, "ifFound(0, 0, 12, 0)", () -> b.ifFound(0, 0, 12, 0), Check.BOUNDS);
        Check.refused(b, "ifFound(0, 0, 0, -1)", () -> b.ifFound(0, 0, 0, -1), Check.BOUNDS);
        Check.refused(b, "ifFound(0, 0, 0, 8)", () -> b.ifFound(0, 0, 0, 8), Check.BOUNDS);
        b.find(0, 0, 0);
        Check.refused(b, "ifFound of a found one", () -> b.ifFound(0, 0, 0, 0), Check.STATE);
        Check.refused(b, "ifFound of a found one, other 8", () -> b.ifFound(0, 0, 0, 8), Check.BOUNDS);
        Check.refused(b, "ifFound of a found one, at 12", () -> b.ifFound(0, 0, 12, 0), Check.BOUNDS);
    }

    private static void changesNothing() {
        DogBoard b = new DogBoard();
        b.lose(15, 2, 5, 100);
        b.hours(4);
        b.sight(0, 6, 15, 0, true);
        String before = Check.stateOf(b);
        b.canBe(0);
        b.watch();
        b.meant(15);
        b.ifFound(0, 1, 2, 1);
        b.runScript(3, 301020_100024_400011L);
        b.simulate(77, 60);
        Check.same("what would be changes nothing", Check.stateOf(b), before);
        Check.due("and is no action", () -> b.undo(), 2);
    }
}
