/** Promises 24 and 25: save, restore. */
public final class SlotsTest {
    public static void main(String[] args) {
        savesAndRestores();
        keepsTheSlot();
        forgetsRememberedStates();
        isNoAction();
        refuses();
        Check.end("SlotsTest");
    }

    private static void savesAndRestores() {
        DogBoard b = new DogBoard();
        Check.due("save a new board", () -> b.save(0), 0);
        b.lose(15, 1, 0, 100);
        b.hours(30);
        b.sight(1, 1, 15, 0, true);
        b.close(0, 1, true);
        b.set(0, 9);
        b.set(1, 7);
        Check.due("save another", () -> b.save(1), 30);
        String saved = Check.stateOf(b);
        b.find(0, 3, 1);
        b.close(0, 4, true);
        b.hours(12);
        b.set(0, 1);
        b.set(1, 1);
        Check.write(b, "M");
        Check.due("restore 1", () -> b.restore(1), 30);
        Check.same("restored", Check.stateOf(b), saved);
        Check.due("restored growth", b.set(0, 9), 9);
        Check.due("restored unlike marks", b.set(1, 7), 7);
        Check.due("the text is no part of it", b.clearText(), 1);
        Check.due("restore 0", () -> b.restore(0), 0);
        Check.same("restored to a new board", Check.stateOf(b), Check.stateOf(new DogBoard()));
        Check.due("the hour of now", b.about(3), 0);
    }

    private static void keepsTheSlot() {
        DogBoard b = new DogBoard();
        b.hours(5);
        b.save(0);
        b.restore(0);
        b.hours(5);
        Check.due("restore once", () -> b.restore(0), 5);
        b.hours(7);
        Check.due("restore twice", () -> b.restore(0), 5);
        b.hours(1);
        Check.due("save over it", () -> b.save(0), 6);
        b.hours(1);
        Check.due("restore the newer one", () -> b.restore(0), 6);
    }

    private static void forgetsRememberedStates() {
        DogBoard b = new DogBoard();
        b.hours(5);
        b.save(1);
        b.hours(5);
        b.restore(1);
        Check.due("undo behind restore", () -> b.undo(), Check.STATE);
        b.hours(2);
        Check.due("undo of an action behind restore", () -> b.undo(), 0);
        Check.due("the hour then", b.about(3), 5);
    }

    private static void isNoAction() {
        DogBoard b = new DogBoard();
        b.hours(5);
        b.save(0);
        b.save(1);
        Check.due("save is no action", () -> b.undo(), 0);
        Check.due("the hour then", b.about(3), 0);
    }

    private static void refuses() {
        DogBoard b = new DogBoard();
        b.hours(5);
        b.save(0);
        Check.refused(b, "save(-1)", () -> b.save(-1), Check.BOUNDS);
        Check.refused(b, "save(2)", () -> b.save(2), Check.BOUNDS);
        Check.refused(b, "restore(-1)", () -> b.restore(-1), Check.BOUNDS);
        Check.refused(b, "restore(2)", () -> b.restore(2), Check.BOUNDS);
        Check.refused(b, "restore of an empty slot", () -> b.restore(1), Check.STATE);
        Check.due("undo behind restores that throw", () -> b.undo(), 0);
    }
}
