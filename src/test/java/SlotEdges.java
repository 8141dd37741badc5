/** Edges of the promises 24, save, and 25, restore. */
final class SlotEdges {
    private SlotEdges() {
    }

    static void run() {
        saveAnswersTheHour();
        savesInOneSlot();
        saveNeedsASlot();
        restoresTheWholeState();
        forgetsRememberedStates();
        theSlotKeepsIt();
        restoreAnswersTheHour();
        restoreTakesBothSlots();
        restoreNeedsASlot();
        restoreNeedsAState();
    }

    private static void saveAnswersTheHour() {
        Check.sentence(24, "Returns the hour of now.");
        DogBoard b = new DogBoard();
        Check.due("at first", () -> b.save(0), 0);
        b.hours(1);
        Check.due("an hour later", () -> b.save(1), 1);
        b.hours(99);
        Check.due("later", () -> b.save(0), 100);
    }

    private static void savesInOneSlot() {
        Check.sentence(24, "Stores the present state in a save slot.");
        DogBoard b = new DogBoard();
        b.hours(1);
        b.save(0);
        b.hours(1);
        b.save(1);
        b.hours(1);
        Check.due("the slot 0", () -> b.restore(0), 1);
        Check.due("the slot 1", () -> b.restore(1), 2);
        b.hours(5);
        b.save(0);
        Check.due("the slot 1 again", () -> b.restore(1), 2);
        Check.due("the slot 0, saved once more", () -> b.restore(0), 7);
        Check.sentence(24, "`slot`: 0 or 1");
        for (int slot = 0; slot <= 1; slot++) {
            DogBoard one = new DogBoard();
            int s = slot;
            one.save(s);
            Check.due("the slot that is filled", () -> one.restore(s), 0);
            Check.due("the slot that is empty", () -> one.restore(1 - s), Edges.STATE);
        }
    }

    private static final int[] NO_SLOTS = {Integer.MIN_VALUE, -1, 2, 3, Integer.MAX_VALUE};

    private static void saveNeedsASlot() {
        Check.sentence(24, "Throws `IndexOutOfBoundsException` if there is no such save slot");
        for (int slot : NO_SLOTS) {
            Edges.refuses("save(" + slot + ")", Edges::busy, b -> b.save(slot), Edges.BOUNDS);
            Edges.refuses("save(" + slot + ") of a new board", Edges::fresh, b -> b.save(slot), Edges.BOUNDS);
        }
    }

    private static DogBoard changedBehindSave(int slot) {
        DogBoard b = Edges.busy();
        b.save(slot);
        b.lose(1, 1, 0, 1);
        b.sight(0, 0, 1, 0, true);
        b.find(0, 0, 5);
        b.close(0, 1, true);
        b.close(2, 3, false);
        b.hours(99);
        b.set(0, 1);
        b.set(1, 1);
        return b;
    }

    private static void restoresTheWholeState() {
        Check.sentence(25, "Replaces the state by the one in a save slot");
        for (int slot = 0; slot <= 1; slot++) {
            DogBoard b = changedBehindSave(slot);
            b.restore(slot);
            Check.same("restored", Check.stateOf(b), Check.stateOf(Edges.busy()));
            DogBoard settings = changedBehindSave(slot);
            settings.restore(slot);
            Check.due("growth", () -> settings.set(0, 0), 8);
            Check.due("unlike marks", () -> settings.set(1, 0), 3);
        }
        DogBoard found = Edges.lostAt(0, 1, 1);
        found.sight(0, 1, 15, 0, true);
        found.find(0, 0, 0);
        found.save(0);
        found.undo();
        found.restore(0);
        found.close(0, 1, true);
        found.close(0, 4, true);
        Check.due("what is settled is restored too", found.sightingOf(0, 7), 1);
    }

    private static void forgetsRememberedStates() {
        Check.sentence(25, "and forgets all remembered states");
        for (int slot = 0; slot <= 1; slot++) {
            DogBoard b = Edges.busy();
            int s = slot;
            b.restore(s);
            Check.due("undo", () -> b.undo(), Edges.STATE);
            b.hours(1);
            b.hours(1);
            Check.due("undo of two", () -> b.undo(), 1);
            Check.due("undo of one", () -> b.undo(), 0);
            Check.due("undo of none", () -> b.undo(), Edges.STATE);
        }
        DogBoard refused = new DogBoard();
        refused.hours(1);
        Check.due("restore of an empty slot", () -> refused.restore(0), Edges.STATE);
        Check.due("it forgets nothing", () -> refused.undo(), 0);
    }

    private static void theSlotKeepsIt() {
        Check.sentence(25, "The save slot keeps it.");
        for (int slot = 0; slot <= 1; slot++) {
            DogBoard b = changedBehindSave(slot);
            b.restore(slot);
            b.find(0, 0, 0);
            b.close(0, 4, true);
            b.set(0, 2);
            b.hours(5);
            b.restore(slot);
            Check.same("restored once more", Check.stateOf(b), Check.stateOf(Edges.busy()));
        }
    }

    private static void restoreAnswersTheHour() {
        Check.sentence(25, "Returns the hour of now then.");
        DogBoard b = Edges.busy();
        Check.due("restore(1)", () -> b.restore(1), 30);
        Check.due("the hour", b.about(3), 30);
        Check.due("restore(0)", () -> b.restore(0), 0);
        Check.due("the hour then", b.about(3), 0);
        Check.due("restore(1) again", () -> b.restore(1), 30);
    }

    private static void restoreTakesBothSlots() {
        Check.sentence(25, "`slot`: 0 or 1");
        int[] answers = {Edges.BOUNDS, 0, 30, Edges.BOUNDS};
        for (int slot = -1; slot <= 2; slot++) {
            int s = slot;
            Check.due("restore(" + s + ")", () -> Edges.busy().restore(s), answers[s + 1]);
        }
    }

    private static void restoreNeedsASlot() {
        Check.sentence(25, "Throws `IndexOutOfBoundsException` if there is no such save slot");
        for (int slot : NO_SLOTS) {
            Edges.refuses("restore(" + slot + ")", Edges::busy, b -> b.restore(slot), Edges.BOUNDS);
            Edges.refuses("restore(" + slot + ") of a new board", Edges::fresh, b -> b.restore(slot), Edges.BOUNDS);
        }
    }

    private static DogBoard loaded() {
        DogBoard b = Edges.busy();
        b.load();
        b.hours(1);
        return b;
    }

    private static void restoreNeedsAState() {
        Check.sentence(25, "Throws `IllegalStateException` if nothing has been saved in it since the last load");
        for (int slot = 0; slot <= 1; slot++) {
            int s = slot;
            Edges.refuses("restore(" + s + ") of a new board", Edges::fresh, b -> b.restore(s), Edges.STATE);
            Edges.refuses("restore(" + s + ") behind load", SlotEdges::loaded, b -> b.restore(s), Edges.STATE);
            Edges.refuses("restore(" + s + ") with the other one filled", () -> {
                DogBoard b = loaded();
                b.save(1 - s);
                return b;
            }, b -> b.restore(s), Edges.STATE);
            DogBoard b = loaded();
            b.save(s);
            Check.due("saved since the load", () -> b.restore(s), 8);
        }
        DogBoard refused = new DogBoard();
        refused.save(0);
        Check.due("a load that throws", () -> refused.load(), Edges.STATE);
        Check.due("saved since the last load", () -> refused.restore(0), 0);
    }
}
