/** Promises 11 to 17: lose, sight, find, close, hours, set, undo. */
public final class ActionsTest {
    public static void main(String[] args) {
        loses();
        refusesToLose();
        sights();
        choosesTheDogMeant();
        refusesSightings();
        finds();
        refusesToFind();
        closes();
        passesHours();
        sets();
        undoes();
        remembersFourteen();
        everyActionIsUndone();
        Check.end("ActionsTest");
    }

    private static void loses() {
        DogBoard b = new DogBoard();
        Check.due("lose the least", () -> b.lose(1, 1, 0, 1), 0);
        Check.due("lose the most", () -> b.lose(255, 3, 11, 500), 1);
        Check.due("both are paid", b.about(4), 501);
        for (int d = 2; d < 6; d++) {
            Check.due("lose dog " + d, b.lose(2, 2, 3, 5), d);
        }
        Check.refused(b, "lose a seventh", () -> b.lose(2, 2, 3, 5), Check.STATE);
        Check.refused(b, "lose a seventh without marks", () -> b.lose(0, 2, 3, 5), Check.ARGUMENT);
        Check.refused(b, "lose a seventh nowhere", () -> b.lose(0, 2, 12, 5), Check.BOUNDS);
        b.find(0, 0, 0);
        Check.refused(b, "lose a seventh with one found", () -> b.lose(2, 2, 3, 5), Check.STATE);
    }

    private static void refusesToLose() {
        DogBoard b = new DogBoard();
        Check.refused(b, "lose at -1", () -> b.lose(0, 0, -1, 0), Check.BOUNDS);
        Check.refused(b, "lose at 12", () -> b.lose(1, 1, 12, 1), Check.BOUNDS);
        Check.refused(b, "lose with marks 0", () -> b.lose(0, 1, 0, 1), Check.ARGUMENT);
        Check.refused(b, "lose with marks 256", () -> b.lose(256, 1, 0, 1), Check.ARGUMENT);
        Check.refused(b, "lose with pace 0", () -> b.lose(1, 0, 0, 1), Check.ARGUMENT);
        Check.refused(b, "lose with pace 4", () -> b.lose(1, 4, 0, 1), Check.ARGUMENT);
        Check.refused(b, "lose with reward 0", () -> b.lose(1, 1, 0, 0), Check.ARGUMENT);
        Check.refused(b, "lose with reward 501", () -> b.lose(1, 1, 0, 501), Check.ARGUMENT);
        Check.due("nothing is remembered of calls that throw", () -> b.undo(), Check.STATE);
    }

    private static void sights() {
        DogBoard b = new DogBoard();
        Check.due("a sighting without dogs", () -> b.sight(0, 0, 0, 0, false), -1);
        b.lose(15, 1, 5, 10);
        Check.due("the same marks", () -> b.sight(0, 5, 15, 0, false), 0);
        Check.due("two unlike marks", () -> b.sight(7, 5, 3, 0, true), 0);
        Check.due("three unlike marks", () -> b.sight(7, 5, 1, 0, true), -1);
        b.set(1, 8);
        Check.due("all marks may be unlike", () -> b.sight(7, 11, 240, 0, true), 0);
        b.set(1, 0);
        Check.due("no mark may be unlike", () -> b.sight(7, 11, 14, 0, true), -1);
        Check.due("what it means does not change", b.sightingOf(4, 5), 0);
        b.hours(99);
        b.hours(1);
        Check.due("99 hours ago", () -> b.sight(1, 5, 15, 99, false), 0);
        Check.due("its hour", b.sightingOf(6, 2), 1);
    }

    private static void choosesTheDogMeant() {
        DogBoard b = new DogBoard();
        b.lose(15, 1, 0, 10);
        b.lose(15, 1, 0, 30);
        b.lose(15, 1, 0, 30);
        b.lose(31, 1, 0, 90);
        Check.due("the greatest reward of the same marks, then the lowest", b.sight(0, 0, 15, 0, true), 1);
        Check.due("fewer unlike marks are ahead of a reward", b.sight(0, 0, 31, 0, true), 3);
        Check.due("a mark more for all but one", b.sight(0, 0, 63, 0, true), 3);
        b.find(1, 0, 0);
        Check.due("a found dog is not meant", b.sight(0, 0, 15, 0, true), 2);
        b.hours(5);
        b.lose(15, 1, 0, 500);
        Check.due("at the hour of its loss", b.sight(0, 0, 15, 0, true), 4);
        Check.due("ahead of its loss", b.sight(0, 0, 15, 1, true), 2);
        b.hours(24);
        b.set(0, 50);
        b.hours(19);
        Check.due("the rewards as they have grown", b.meant(15), 4);
        Check.due("rewards count as they are then", b.sight(0, 0, 15, 48, true), 2);
    }

    private static void refusesSightings() {
        DogBoard b = new DogBoard();
        b.hours(4);
        Check.refused(b, "sight by -1", () -> b.sight(-1, 0, 0, 0, true), Check.BOUNDS);
        Check.refused(b, "sight by 8", () -> b.sight(8, 0, 256, 0, true), Check.BOUNDS);
        Check.refused(b, "sight at -1", () -> b.sight(0, -1, 0, -1, true), Check.BOUNDS);
        Check.refused(b, "sight at 12", () -> b.sight(0, 12, 0, 0, true), Check.BOUNDS);
        Check.refused(b, "sight of marks -1", () -> b.sight(0, 0, -1, 0, true), Check.ARGUMENT);
        Check.refused(b, "sight of marks 256", () -> b.sight(0, 0, 256, 0, true), Check.ARGUMENT);
        Check.refused(b, "sight -1 hours ago", () -> b.sight(0, 0, 0, -1, true), Check.ARGUMENT);
        Check.refused(b, "sight 5 hours ago", () -> b.sight(0, 0, 0, 5, true), Check.ARGUMENT);
        Check.due("sight 4 hours ago", () -> b.sight(0, 0, 0, 4, true), -1);
        b.hours(99);
        Check.refused(b, "sight 100 hours ago", () -> b.sight(0, 0, 0, 100, true), Check.ARGUMENT);
        for (int s = 1; s < 20; s++) {
            Check.due("sighting " + s, b.sight(0, 0, 0, 0, true), -1);
        }
        Check.refused(b, "sight a 21st", () -> b.sight(0, 0, 0, 0, true), Check.STATE);
        Check.refused(b, "sight a 21st of marks 256", () -> b.sight(0, 0, 256, 0, true), Check.ARGUMENT);
        Check.refused(b, "sight a 21st by 8", () -> b.sight(8, 0, 256, 0, true), Check.BOUNDS);
    }

    private static void finds() {
        DogBoard b = new DogBoard();
        b.lose(15, 2, 5, 100);
        b.hours(4);
        b.sight(0, 6, 15, 0, true);
        b.sight(1, 7, 15, 1, false);
        b.sight(2, 6, 15, 1, false);
        b.sight(0, 4, 15, 1, false);
        b.sight(3, 11, 15, 3, true);
        Check.due("one is not true", b.about(8), 1);
        // Found at 6 by finder 1: 3 (photo, near), 2 (near), 2 (near), 1 (two streets away), and 3: 11 in all.
        Check.due("find", () -> b.find(0, 1, 6), 100 * 5 / 11);
        Check.due("purse 0", b.purse(0), 100 * 4 / 11);
        Check.due("purse 1", b.purse(1), 45);
        Check.due("purse 2", b.purse(2), 100 * 2 / 11);
        Check.due("purse 3 gets nothing for a fraud", b.purse(3), 0);
        Check.due("what is left", b.about(6), 100 - 36 - 45 - 18);
        Check.due("the accounts add up", b.about(5) + b.about(6) + b.about(7), b.about(4));

        DogBoard shut = new DogBoard();
        shut.lose(15, 2, 5, 100);
        shut.sight(0, 5, 15, 0, false);
        shut.close(5, 6, true);
        Check.due("the street between is closed", shut.find(0, 1, 6), 75);
    }

    private static void refusesToFind() {
        DogBoard b = new DogBoard();
        Check.refused(b, "find without dogs", () -> b.find(0, 0, 0), Check.BOUNDS);
        b.lose(15, 2, 5, 100);
        Check.refused(b, "find dog -1", () -> b.find(-1, 0, 0), Check.BOUNDS);
        Check.refused(b, "find dog 1", () -> b.find(1, 0, 0), Check.BOUNDS);
        Check.refused(b, "find by -1", () -> b.find(0, -1, 0), Check.BOUNDS);
        Check.refused(b, "find by 8", () -> b.find(0, 8, 0), Check.BOUNDS);
        Check.refused(b, "find at -1", () -> b.find(0, 0, -1), Check.BOUNDS);
        Check.refused(b, "find at 12", () -> b.find(0, 0, 12), Check.BOUNDS);
        b.find(0, 7, 11);
        Check.refused(b, "find again", () -> b.find(0, 7, 11), Check.STATE);
        Check.refused(b, "find again by 8", () -> b.find(0, 8, 11), Check.BOUNDS);
        Check.refused(b, "find again at 12", () -> b.find(0, 7, 12), Check.BOUNDS);
    }

    private static void closes() {
        DogBoard b = new DogBoard();
        Check.due("close a street", () -> b.close(0, 1, true), 1);
        Check.due("close it again, from its other end", () -> b.close(1, 0, true), 1);
        Check.due("close one below", () -> b.close(7, 11, true), 2);
        Check.due("open it", () -> b.close(11, 7, false), 1);
        Check.due("open it again", () -> b.close(7, 11, false), 1);
        Check.refused(b, "close at -1", () -> b.close(-1, 0, true), Check.BOUNDS);
        Check.refused(b, "close at 12", () -> b.close(8, 12, true), Check.BOUNDS);
        Check.refused(b, "close a corner", () -> b.close(5, 5, true), Check.ARGUMENT);
        Check.refused(b, "close from row to row", () -> b.close(3, 4, true), Check.ARGUMENT);
        Check.refused(b, "close two columns", () -> b.close(0, 2, true), Check.ARGUMENT);
        Check.refused(b, "close two rows", () -> b.close(0, 8, true), Check.ARGUMENT);
        Check.refused(b, "close across", () -> b.close(0, 5, false), Check.ARGUMENT);
        DogBoard all = new DogBoard();
        int closed = 0;
        for (int one = 0; one < 12; one++) {
            for (int other = 0; other < 12; other++) {
                boolean joined = Math.abs(one / 4 - other / 4) + Math.abs(one % 4 - other % 4) == 1;
                closed += joined && one < other ? 1 : 0;
                int a = one;
                int c = other;
                Check.due("close " + a + ", " + c, () -> all.close(a, c, true), joined ? all.about(10) + (a < c ? 1 : 0)
                        : Check.ARGUMENT);
            }
        }
        Check.due("17 streets", closed, 17);
        Check.due("all closed", all.about(10), 17);
    }

    private static void passesHours() {
        DogBoard b = new DogBoard();
        Check.due("no dog, no growth", () -> b.hours(99), 0);
        b.lose(1, 1, 0, 10);
        b.hours(1);
        b.lose(2, 1, 0, 20);
        Check.due("up to a day", () -> b.hours(22), 0);
        Check.due("the first one's day", () -> b.hours(1), 5);
        Check.due("the second one's day", () -> b.hours(1), 5);
        Check.due("four days and more", () -> b.hours(99), 40);
        Check.due("the hour", b.about(3), 99 + 1 + 22 + 2 + 99);
        Check.due("the first one's reward", b.dogOf(0, 4), 35);
        Check.due("the second one's reward", b.dogOf(1, 4), 35 + 10);
        Check.due("what is paid", b.about(4), 80);
        b.set(0, 50);
        b.find(0, 0, 0);
        Check.due("one day by the new setting, one dog", () -> b.hours(24), 50);
        b.set(0, 0);
        Check.due("no growth", () -> b.hours(24), 0);
        Check.refused(b, "hours(0)", () -> b.hours(0), Check.ARGUMENT);
        Check.refused(b, "hours(100)", () -> b.hours(100), Check.ARGUMENT);
        Check.refused(b, "hours(-1)", () -> b.hours(-1), Check.ARGUMENT);
    }

    private static void sets() {
        DogBoard b = new DogBoard();
        Check.due("set growth", () -> b.set(0, 50), 5);
        Check.due("set growth again", () -> b.set(0, 0), 50);
        Check.due("set unlike marks", () -> b.set(1, 8), 2);
        Check.due("set unlike marks again", () -> b.set(1, 0), 8);
        Check.due("growth is another setting", () -> b.set(0, 1), 0);
        Check.refused(b, "set(-1, 0)", () -> b.set(-1, 0), Check.ARGUMENT);
        Check.refused(b, "set(2, 0)", () -> b.set(2, 0), Check.ARGUMENT);
        Check.refused(b, "set(0, 51)", () -> b.set(0, 51), Check.ARGUMENT);
        Check.refused(b, "set(0, -1)", () -> b.set(0, -1), Check.ARGUMENT);
        Check.refused(b, "set(1, 9)", () -> b.set(1, 9), Check.ARGUMENT);
        Check.refused(b, "set(1, -1)", () -> b.set(1, -1), Check.ARGUMENT);
        Check.due("what was set stands", () -> b.set(0, 5), 1);
    }

    private static void undoes() {
        DogBoard b = new DogBoard();
        Check.refused(b, "undo of nothing", () -> b.undo(), Check.STATE);
        b.lose(1, 1, 0, 10);
        String before = Check.stateOf(b);
        b.hours(30);
        b.set(0, 7);
        b.set(0, 7);
        Check.due("undo an action that changed nothing", () -> b.undo(), 3);
        Check.due("undo a setting", () -> b.undo(), 2);
        Check.due("undo hours", () -> b.undo(), 1);
        Check.same("undone", Check.stateOf(b), before);
        Check.due("the setting is back", b.set(0, 5), 5);
        Check.due("undo is no action", () -> b.undo(), 1);
        Check.due("undo the first one", () -> b.undo(), 0);
        Check.same("undone to a new board", Check.stateOf(b), Check.stateOf(new DogBoard()));
        Check.refused(b, "undo too often", () -> b.undo(), Check.STATE);
        Check.write(b, "Mh01");
        b.hours(1);
        b.save(0);
        b.undo();
        Check.due("undo leaves the text", b.clearText(), 4);
        Check.due("undo leaves the save slots", () -> b.restore(0), 1);
    }

    private static void remembersFourteen() {
        DogBoard b = new DogBoard();
        for (int n = 1; n <= 40; n++) {
            b.hours(1);
        }
        for (int left = 13; left >= 0; left--) {
            Check.due("undo to " + left, () -> b.undo(), left);
            Check.due("the hour with " + left, b.about(3), 26 + left);
        }
        Check.refused(b, "undo a fifteenth", () -> b.undo(), Check.STATE);
        for (int n = 1; n <= 3; n++) {
            b.hours(2);
        }
        Check.due("undo behind the oldest", () -> b.undo(), 2);
        Check.due("the hour then", b.about(3), 30);
    }

    private static void everyActionIsUndone() {
        Edges.Question[] actions = {
            x -> x.lose(1, 1, 1, 1), x -> x.sight(0, 0, 15, 0, true), x -> x.sight(0, 0, 240, 0, true),
            x -> x.find(0, 0, 0), x -> x.close(0, 1, true), x -> x.hours(99), x -> x.set(0, 9), x -> x.set(1, 8)};
        for (int i = 0; i < actions.length; i++) {
            DogBoard x = Edges.lostAt(0, 1, 1);
            String before = Check.stateOf(x);
            actions[i].of(x);
            Check.due("undo action " + i, () -> x.undo(), 2);
            Check.same("action " + i + " undone", Check.stateOf(x), before);
        }
        DogBoard b = Edges.lostAt(0, 1, 1);
        b.sight(0, 0, 15, 0, true);
        b.find(0, 3, 0);
        b.undo();
        Check.due("a dog is missing again", b.dogOf(0, 5), 1);
        Check.due("the purse is empty again", b.purse(3), 0);
        Check.due("nothing is given", b.about(5), 0);
    }
}
