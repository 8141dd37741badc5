import java.util.Random;

/** Edges of the quarter, and of the promises 10, apart, and 14, close. */
final class QuarterEdges {
    private static final int[][] STREETS = {
        {0, 1}, {1, 2}, {2, 3}, {4, 5}, {5, 6}, {6, 7}, {8, 9}, {9, 10}, {10, 11},
        {0, 4}, {1, 5}, {2, 6}, {3, 7}, {4, 8}, {5, 9}, {6, 10}, {7, 11}};

    private QuarterEdges() {
    }

    static void run() {
        cornersFromZeroToEleven();
        rowsAndColumns();
        seventeenStreets();
        noneIsClosedAtFirst();
        aClosedStreetJoinsNothing();
        aCornerIsApartFromItselfByNothing();
        theLongestWay();
        noWay();
        bothWaysAgree();
        apartNeedsCorners();
        apartNeedsAWay();
        closedThen();
        howManyAreClosed();
        closeNeedsCorners();
        closeNeedsAStreet();
    }

    private static void cornersFromZeroToEleven() {
        Check.sentence(0, "There are 12 corners, numbered from 0");
        for (int c : new int[] {0, 11}) {
            int beside = c == 0 ? 1 : 10;
            Check.due("apart from the corner " + c, () -> Edges.busy().apart(c, c, 0), 0);
            Check.due("lose at the corner " + c, () -> Edges.busy().lose(1, 1, c, 1), 3);
            Check.due("sight at the corner " + c, () -> Edges.busy().sight(0, c, 0, 0, true), -1);
            Check.due("find at the corner " + c, () -> Edges.busy().find(1, 0, c), 55);
            Check.due("close at the corner " + c, () -> Edges.busy().close(c, beside, true), 3);
            Check.due("ifFound at the corner " + c, () -> Edges.busy().ifFound(1, 0, c, 0), 55);
        }
        for (int c : Edges.NO_CORNERS) {
            Edges.refuses("lose at the corner " + c, Edges::busy, b -> b.lose(1, 1, c, 1), Edges.BOUNDS);
            Edges.refuses("sight at the corner " + c, Edges::busy, b -> b.sight(0, c, 0, 0, true), Edges.BOUNDS);
            Edges.refuses("find at the corner " + c, Edges::busy, b -> b.find(0, 0, c), Edges.BOUNDS);
            Edges.refuses("ifFound at the corner " + c, Edges::busy, b -> b.ifFound(0, 0, c, 0), Edges.BOUNDS);
        }
    }

    private static void rowsAndColumns() {
        Check.sentence(0, "in three rows of four: the corner c is in the row c / 4 and the column c modulo 4");
        int[][] ways = {{0, 3, 3}, {3, 4, 4}, {4, 7, 3}, {7, 8, 4}, {8, 11, 3}, {0, 4, 1}, {4, 8, 1}, {0, 8, 2},
            {3, 7, 1}, {7, 11, 1}, {0, 11, 5}, {3, 8, 5}, {1, 6, 2}, {2, 9, 3}};
        DogBoard b = new DogBoard();
        for (int[] way : ways) {
            Check.due("apart " + way[0] + ", " + way[1], b.apart(way[0], way[1], 0), way[2]);
            Check.due("apart " + way[1] + ", " + way[0], b.apart(way[1], way[0], 1), way[2]);
        }
    }

    private static boolean isStreet(int a, int c) {
        for (int[] street : STREETS) {
            if (street[0] == a && street[1] == c || street[0] == c && street[1] == a) {
                return true;
            }
        }
        return false;
    }

    private static void seventeenStreets() {
        Check.sentence(0, "Streets join corners that are side by side in a row, or one above the other in a column: "
                + "17 streets.");
        DogBoard b = new DogBoard();
        int closed = 0;
        for (int a = 0; a < 12; a++) {
            for (int c = a; c < 12; c++) {
                int one = a;
                int other = c;
                closed += isStreet(a, c) ? 1 : 0;
                int want = isStreet(a, c) ? closed : Edges.ARGUMENT;
                Check.due("close " + a + ", " + c, () -> b.close(one, other, true), want);
                Check.due("close " + c + ", " + a, () -> b.close(other, one, true), want);
            }
        }
        Check.due("all streets closed", b.about(10), 17);
    }

    private static void noneIsClosedAtFirst() {
        Check.sentence(0, "A street can be closed; at first none is.");
        DogBoard b = new DogBoard();
        Check.due("closed at first", b.about(10), 0);
        for (int[] street : STREETS) {
            Check.due("the street at first", b.apart(street[0], street[1], 0), 1);
            DogBoard shut = new DogBoard();
            Check.due("close a street", () -> shut.close(street[0], street[1], true), 1);
            Check.due("the street closed", shut.apart(street[0], street[1], 0), 3);
            Check.due("the street closed, by the other way", shut.apart(street[1], street[0], 1), 3);
        }
    }

    private static void aClosedStreetJoinsNothing() {
        Check.sentence(0, "Two corners are beside one another if a street joins them that is not closed.");
        DogBoard b = new DogBoard();
        b.close(0, 1, true);
        b.close(4, 5, true);
        Check.due("around two closed streets", b.apart(0, 1, 0), 5);
        Check.due("around two closed streets, swept", b.apart(0, 1, 1), 5);
        b.close(8, 9, true);
        Check.due("no way between two columns", b.apart(0, 1, 0), -1);
        b.close(5, 4, false);
        Check.due("opened", b.apart(4, 5, 0), 1);
        Check.due("around one that is still closed", b.apart(0, 1, 0), 3);
        Check.due("around one that is still closed, swept", b.apart(1, 0, 1), 3);
    }

    private static void aCornerIsApartFromItselfByNothing() {
        Check.sentence(10, "Returns the fewest streets, 0 for the same corner (the same for both ways)");
        DogBoard b = new DogBoard();
        for (int[] street : STREETS) {
            b.close(street[0], street[1], true);
        }
        for (int c = 0; c < 12; c++) {
            Check.due("apart " + c + " from itself", b.apart(c, c, 0), 0);
            Check.due("apart " + c + " from itself, swept", b.apart(c, c, 1), 0);
            Check.due("apart " + c + " from the next", b.apart(c, (c + 1) % 12, 0), -1);
            Check.due("apart " + c + " from the next, swept", b.apart(c, (c + 1) % 12, 1), -1);
        }
    }

    /** All corners in one row: 11 10 9 8 4 0 1 5 6 2 3 7, which sweeps from the streets' first to last take longest. */
    private static DogBoard oneLongWay() {
        DogBoard b = new DogBoard();
        int[][] closed = {{1, 2}, {4, 5}, {6, 7}, {5, 9}, {6, 10}, {7, 11}};
        for (int[] street : closed) {
            b.close(street[0], street[1], true);
        }
        return b;
    }

    private static void theLongestWay() {
        Check.sentence(10, "1: told by going through all streets again and again until nothing changes");
        DogBoard b = oneLongWay();
        int[] row = {11, 10, 9, 8, 4, 0, 1, 5, 6, 2, 3, 7};
        for (int i = 0; i < row.length; i++) {
            Check.due("the way from one end, " + i, b.apart(11, row[i], 0), i);
            Check.due("the way from one end, swept, " + i, b.apart(11, row[i], 1), i);
            Check.due("the way from the other end, " + i, b.apart(7, row[i], 0), 11 - i);
            Check.due("the way from the other end, swept, " + i, b.apart(7, row[i], 1), 11 - i);
        }
        Check.sentence(10, "- `way`: 0: told by going from corners to those beside them, one street more each time");
        Check.due("all streets of the longest way", b.apart(7, 11, 0), 11);
    }

    private static void noWay() {
        Check.sentence(10, "NONE if there is no way");
        DogBoard b = oneLongWay();
        b.close(0, 1, true);
        for (int way = 0; way <= 1; way++) {
            Check.due("from one part to the other, " + way, b.apart(11, 7, way), -1);
            Check.due("from the ends where it is cut, " + way, b.apart(1, 0, way), -1);
            Check.due("to the last corner of its part, " + way, b.apart(11, 0, way), 5);
            Check.due("in the other part, " + way, b.apart(1, 7, way), 5);
        }
    }

    private static void bothWaysAgree() {
        Check.sentence(10, "(the same for both ways)");
        Random random = new Random(7);
        for (int round = 0; round < 60; round++) {
            DogBoard b = new DogBoard();
            for (int[] street : STREETS) {
                b.close(street[0], street[1], random.nextInt(5) < 2);
            }
            for (int pair = 0; pair < 144; pair++) {
                Check.due("apart " + pair / 12 + ", " + pair % 12, b.apart(pair / 12, pair % 12, 1),
                        b.apart(pair / 12, pair % 12, 0));
            }
        }
    }

    private static void apartNeedsCorners() {
        Check.sentence(10, "Throws `IndexOutOfBoundsException` if there is no such corner");
        for (int c : Edges.NO_CORNERS) {
            for (int way = -1; way <= 2; way++) {
                int w = way;
                Edges.refuses("apart(" + c + ", 0, " + w + ")", Edges::busy, b -> b.apart(c, 0, w), Edges.BOUNDS);
                Edges.refuses("apart(11, " + c + ", " + w + ")", Edges::busy, b -> b.apart(11, c, w), Edges.BOUNDS);
            }
            Edges.refuses("apart(" + c + " twice)", Edges::busy, b -> b.apart(c, c, 0), Edges.BOUNDS);
        }
    }

    private static void apartNeedsAWay() {
        Check.sentence(10, "Throws `IllegalArgumentException` if way is neither 0 nor 1");
        for (int way : new int[] {Integer.MIN_VALUE, -1, 2, Integer.MAX_VALUE}) {
            Edges.refuses("apart(0, 11, " + way + ")", Edges::busy, b -> b.apart(0, 11, way), Edges.ARGUMENT);
            Edges.refuses("apart(3, 3, " + way + ")", Edges::busy, b -> b.apart(3, 3, way), Edges.ARGUMENT);
        }
        Edges.onlyTells("apart(0, 11, 0)", Edges::fresh, b -> b.apart(0, 11, 0), 5);
        Edges.onlyTells("apart(0, 11, 1)", Edges::fresh, b -> b.apart(0, 11, 1), 5);
    }

    private static void closedThen() {
        Check.sentence(14, "`on`: whether it is closed then");
        DogBoard b = new DogBoard();
        Check.due("open an open one", () -> b.close(5, 6, false), 0);
        Check.due("it is open", b.apart(5, 6, 0), 1);
        Check.due("close it", () -> b.close(5, 6, true), 1);
        Check.due("it is closed", b.apart(5, 6, 0), 3);
        Check.due("close it again", () -> b.close(6, 5, true), 1);
        Check.due("it is still closed", b.apart(6, 5, 0), 3);
        Check.due("open it", () -> b.close(6, 5, false), 0);
        Check.due("it is open again", b.apart(5, 6, 0), 1);
        Check.sentence(14, "Closes a street, or opens it.");
        Check.due("close one of two that meet", () -> b.close(6, 10, true), 1);
        Check.due("the other one is open", b.apart(6, 7, 0), 1);
    }

    private static void howManyAreClosed() {
        Check.sentence(14, "Returns how many streets are closed then.");
        DogBoard b = new DogBoard();
        int closed = 0;
        for (int[] street : STREETS) {
            closed++;
            Check.due("closed, one more", b.close(street[1], street[0], true), closed);
        }
        for (int[] street : STREETS) {
            closed--;
            Check.due("closed, one less", b.close(street[0], street[1], false), closed);
        }
        Check.due("all are open", closed, 0);
    }

    private static void closeNeedsCorners() {
        Check.sentence(14, "Throws `IndexOutOfBoundsException` if there is no such corner");
        for (int c : Edges.NO_CORNERS) {
            for (int other : new int[] {0, 3, 8, 11, c}) {
                Edges.refuses("close(" + c + ", " + other + ")", Edges::busy, b -> b.close(c, other, true), Edges.BOUNDS);
                Edges.refuses("close(" + other + ", " + c + ")", Edges::busy, b -> b.close(other, c, false), Edges.BOUNDS);
            }
        }
    }

    private static void closeNeedsAStreet() {
        Check.sentence(14, "Throws `IllegalArgumentException` if no street joins them");
        int[][] pairs = {{0, 0}, {11, 11}, {3, 4}, {7, 8}, {4, 3}, {0, 2}, {0, 8}, {3, 11}, {0, 5}, {1, 4}, {0, 11}};
        for (int[] pair : pairs) {
            Edges.refuses("close(" + pair[0] + ", " + pair[1] + ", true)", Edges::busy,
                    b -> b.close(pair[0], pair[1], true), Edges.ARGUMENT);
            Edges.refuses("close(" + pair[0] + ", " + pair[1] + ", false)", Edges::busy,
                    b -> b.close(pair[0], pair[1], false), Edges.ARGUMENT);
        }
    }
}
