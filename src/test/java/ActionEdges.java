/** Edges of settings, actions and exceptions, and of the promises 1, a new object, 16, set, and 17, undo. */
final class ActionEdges {
    private ActionEdges() {
    }

    static void run() {
        aNewBoard();
        noneIsMinusOne();
        settings();
        setAnswersThePrevious();
        setTakesItsRanges();
        setNeedsItsRanges();
        everyCallIsAnAction();
        otherCallsAreNoActions();
        askingChangesNothing();
        fourteenStates();
        theOldestIsForgotten();
        loadAndRestoreAreNoActions();
        textAndSlotsAreNoState();
        everythingIsTakenBack();
        lostDogsAreTakenBack();
        undoAnswersHowMany();
        undoNeedsAState();
        boundsMeanOnesThatAreNotThere();
        argumentsOutOfTheirRange();
        statesAsTheMethodSays();
        theFirstExceptionNamed();
        exceptionsChangeNothing();
    }

    private static void aNewBoard() {
        Check.sentence(1, "Creates a board without notices.");
        DogBoard b = new DogBoard();
        for (int what = 0; what <= 10; what++) {
            Check.due("about(" + what + ")", b.about(what), 0);
        }
        Check.due("the text", b.clearText(), 0);
        Check.due("states", () -> b.undo(), Edges.STATE);
        Check.due("the save slot 0", () -> b.restore(0), Edges.STATE);
        Check.due("the save slot 1", () -> b.restore(1), Edges.STATE);
        DogBoard other = new DogBoard();
        other.lose(1, 1, 0, 1);
        other.append('M');
        other.save(0);
        Check.due("a board that another one was made beside", b.about(0), 0);
        Check.due("its text", b.errorPosition(), 0);
        Check.due("its save slot", () -> b.restore(0), Edges.STATE);
    }

    private static void noneIsMinusOne() {
        Check.sentence(0, "The constants: `NONE = -1`: There is no such result.");
        Check.due("NONE", DogBoard.NONE, -1);
    }

    private static final String SETTINGS = "0: coins by which a reward grows a day, 0 to 50, at first 5; 1: the most unlike "
            + "marks, 0 to 8, at first 2.";

    private static void settings() {
        Check.sentence(0, SETTINGS);
        Check.due("growth at first", () -> Edges.fresh().set(0, 0), 5);
        Check.due("unlike marks at first", () -> Edges.fresh().set(1, 0), 2);
        for (int coins = 0; coins <= 50; coins++) {
            DogBoard b = Edges.lostAt(0, 1, 0);
            int growth = coins;
            Check.due("set(0, " + coins + ")", () -> b.set(0, growth), 5);
            Check.due("grown by " + coins, () -> b.hours(24), coins);
        }
        for (int most = 0; most <= 8; most++) {
            DogBoard b = new DogBoard();
            b.lose(255, 1, 0, 1);
            int unlike = most;
            Check.due("set(1, " + most + ")", () -> b.set(1, unlike), 2);
            Check.due(most + " unlike marks", () -> b.meant(255 >> unlike), 0);
            Check.due(most + 1 + " unlike marks", () -> b.meant(255 >> unlike + 1), unlike == 8 ? 0 : -1);
        }
        DogBoard first = Edges.lostAt(0, 1, 23);
        Check.due("growth without a setting", () -> first.hours(1), 5);
    }

    private static void setAnswersThePrevious() {
        Check.sentence(16, "Returns the previous one.");
        DogBoard b = new DogBoard();
        Check.due("growth", () -> b.set(0, 50), 5);
        Check.due("unlike marks", () -> b.set(1, 8), 2);
        Check.due("growth again", () -> b.set(0, 0), 50);
        Check.due("unlike marks again", () -> b.set(1, 0), 8);
        Check.due("the same growth", () -> b.set(0, 0), 0);
        Check.due("the same unlike marks", () -> b.set(1, 0), 0);
    }

    private static void setTakesItsRanges() {
        Check.sentence(16, "`what`: 0 or 1");
        for (int w = -1; w <= 2; w++) {
            int what = w;
            int[] previous = {Edges.ARGUMENT, 8, 3, Edges.ARGUMENT};
            Check.due("set(" + w + ", 1)", () -> Edges.busy().set(what, 1), previous[w + 1]);
        }
        Check.sentence(16, "`v`: the new value, in its range");
        for (int value = -1; value <= 51; value++) {
            int v = value;
            Check.due("set(0, " + v + ")", () -> Edges.busy().set(0, v), v >= 0 && v <= 50 ? 8 : Edges.ARGUMENT);
            Check.due("set(1, " + v + ")", () -> Edges.busy().set(1, v), v >= 0 && v <= 8 ? 3 : Edges.ARGUMENT);
        }
    }

    private static void setNeedsItsRanges() {
        Check.sentence(16, "Throws `IllegalArgumentException` if what or v is out of range");
        for (int v : new int[] {Integer.MIN_VALUE, -1, 51, 52, Integer.MAX_VALUE}) {
            Edges.refuses("set(0, " + v + ")", Edges::busy, b -> b.set(0, v), Edges.ARGUMENT);
        }
        for (int v : new int[] {Integer.MIN_VALUE, -1, 9, 10, 50, Integer.MAX_VALUE}) {
            Edges.refuses("set(1, " + v + ")", Edges::busy, b -> b.set(1, v), Edges.ARGUMENT);
        }
        for (int what : new int[] {Integer.MIN_VALUE, -1, 2, 3, Integer.MAX_VALUE}) {
            Edges.refuses("set(" + what + ", 0)", Edges::busy, b -> b.set(what, 0), Edges.ARGUMENT);
            Edges.refuses("set(" + what + ", 5)", Edges::busy, b -> b.set(what, 5), Edges.ARGUMENT);
        }
    }

    private static void everyCallIsAnAction() {
        Check.sentence(0, "Each call of one of them that does not throw an exception is an action, also if nothing becomes "
                + "different (undo is none).");
        Edges.Question[] actions = {
            b -> b.lose(1, 1, 0, 1), b -> b.sight(0, 0, 0, 0, false), b -> b.find(0, 0, 0), b -> b.hours(1),
            b -> b.close(0, 1, true), b -> b.close(0, 1, true), b -> b.close(0, 1, false), b -> b.close(0, 1, false),
            b -> b.set(0, 5), b -> b.set(1, 2), b -> b.set(1, 2)};
        DogBoard b = new DogBoard();
        for (Edges.Question action : actions) {
            action.of(b);
        }
        for (int left = actions.length - 1; left >= 0; left--) {
            Check.due("undo", () -> b.undo(), left);
        }
        Check.due("undo of nothing", () -> b.undo(), Edges.STATE);
        for (Edges.Question action : actions) {
            DogBoard one = new DogBoard();
            Check.answerOf(() -> action.of(one));
            boolean isDone = action != actions[2];
            Check.due("undo of one", () -> one.undo(), isDone ? 0 : Edges.STATE);
        }
        b.hours(1);
        b.hours(1);
        b.undo();
        Check.due("an undo is not undone", () -> b.undo(), 0);
        Check.due("the hour", b.about(3), 0);
    }

    private static void otherCallsAreNoActions() {
        Check.sentence(0, "The methods in the section \"actions\" change the state");
        DogBoard b = Edges.lostAt(0, 1, 1);
        String before = Check.stateOf(b);
        b.append('M');
        b.append('h');
        b.errorPosition();
        b.clearText();
        b.canBe(0);
        b.watch();
        b.meant(15);
        b.ifFound(0, 0, 0, 0);
        b.runScript(3, 100001_300000_400011L);
        b.simulate(1, 60);
        b.save(0);
        Check.same("behind all other calls", Check.stateOf(b), before);
        Check.due("undo of the hours", () -> b.undo(), 1);
        Check.due("undo of the loss", () -> b.undo(), 0);
    }

    private static void askingChangesNothing() {
        Check.sentence(0, "these and all following methods up to the save slots change nothing");
        Edges.onlyTells("canBe", Edges::busy, b -> b.canBe(1), 0b1111_1111_1111);
        Edges.onlyTells("watch", Edges::busy, b -> b.watch(), 0);
        Edges.onlyTells("meant", Edges::busy, b -> b.meant(15), 0);
        Edges.onlyTells("ifFound", Edges::busy, b -> b.ifFound(1, 2, 3, 2), 55);
        Edges.onlyTells("runScript", Edges::busy, b -> b.runScript(3, 100099_310000_400011L), -1);
        Edges.onlyTells("simulate", Edges::busy, b -> Math.min(b.simulate(5, 60), 0), 0);
    }

    private static void fourteenStates() {
        Check.sentence(0, "Before each action, the state is remembered.");
        Check.sentence(0, "At most 14 states are remembered");
        for (int actions = 0; actions <= 31; actions++) {
            DogBoard b = new DogBoard();
            for (int n = 0; n < actions; n++) {
                b.hours(1);
            }
            int undone = 0;
            for (int n = 0; n < 40 && Check.answerOf(b::undo) >= 0; n++) {
                undone++;
            }
            Check.due("undone of " + actions, undone, Math.min(actions, 14));
            Check.due("the hour left of " + actions, b.about(3), actions - Math.min(actions, 14));
        }
    }

    private static void theOldestIsForgotten() {
        Check.sentence(0, "when one more is remembered, the oldest one is forgotten");
        DogBoard b = new DogBoard();
        for (int n = 0; n < 15; n++) {
            b.hours(1);
        }
        for (int left = 13; left >= 10; left--) {
            Check.due("undo", () -> b.undo(), left);
        }
        for (int n = 0; n < 6; n++) {
            b.hours(2);
        }
        // Remembered are the hours 3 to 10, and 11, 13, 15, 17, 19, 21; 1 and 2 are forgotten.
        int[] hours = {21, 19, 17, 15, 13, 11, 10, 9, 8, 7, 6, 5, 4, 3};
        for (int i = 0; i < hours.length; i++) {
            int left = hours.length - 1 - i;
            Check.due("undo", () -> b.undo(), left);
            Check.due("the hour", b.about(3), hours[i]);
        }
        Check.due("undo of what is forgotten", () -> b.undo(), Edges.STATE);
        Check.due("the hour stays", b.about(3), 3);
    }

    private static void loadAndRestoreAreNoActions() {
        Check.sentence(0, "load and restore are not actions.");
        DogBoard b = new DogBoard();
        Check.write(b, "Mh01h02");
        b.load();
        Check.due("undo of load", () -> b.undo(), Edges.STATE);
        Check.due("the hour stays", b.about(3), 3);
        b.save(0);
        b.hours(1);
        b.restore(0);
        Check.due("undo of restore", () -> b.undo(), Edges.STATE);
        b.hours(1);
        Check.due("undo of what is done behind them", () -> b.undo(), 0);
        Check.due("the hour is the restored one", b.about(3), 3);
    }

    private static void textAndSlotsAreNoState() {
        Check.sentence(0, "the state, which consists of everything but the text and the save slots");
        DogBoard b = new DogBoard();
        b.hours(3);
        Check.write(b, "Mh0");
        b.save(1);
        b.undo();
        Check.due("the text behind undo", b.clearText(), 3);
        Check.due("the save slot behind undo", () -> b.restore(1), 3);
        Check.write(b, "Mh07");
        b.save(0);
        b.hours(1);
        b.restore(1);
        Check.due("the text behind restore", b.errorPosition(), -1);
        Check.due("the other slot behind restore", () -> b.restore(0), 3);
    }

    private static void everythingIsTakenBack() {
        Check.sentence(17, "Takes back the last action that is remembered.");
        Edges.Question[] actions = {
            b -> b.lose(255, 3, 11, 500), b -> b.sight(7, 6, 15, 0, true), b -> b.sight(0, 0, 90, 0, false),
            b -> b.find(0, 3, 5), b -> b.find(1, 3, 0), b -> b.close(0, 1, true), b -> b.close(2, 3, false),
            b -> b.hours(99), b -> b.set(0, 50), b -> b.set(1, 8)};
        for (Edges.Question action : actions) {
            Edges.onlyTells("an action taken back", ActionEdges::withRoomToRemember, b -> {
                action.of(b);
                return b.undo();
            }, 9);
        }
    }

    private static void lostDogsAreTakenBack() {
        Check.sentence(17, "Takes back the last action that is remembered.");
        DogBoard b = new DogBoard();
        b.lose(1, 1, 11, 1);
        b.save(0);
        b.lose(2, 1, 7, 500);
        b.lose(4, 1, 7, 500);
        Check.due("watch for three", () -> b.watch(), 7);
        b.undo();
        b.undo();
        Check.due("watch for one", () -> b.watch(), 11);
        Check.due("one that was taken back, in a script", () -> b.runScript(1, 610700), 0);
        b.lose(2, 1, 7, 500);
        b.restore(0);
        Check.due("watch for the restored one", () -> b.watch(), 11);
        Check.due("one behind the restored one, in a script", () -> b.runScript(1, 610700), 0);
        Check.due("the reward of one behind it, in a script", () -> b.runScript(1, 810000), 0);
    }

    private static DogBoard withRoomToRemember() {
        DogBoard b = Edges.busy();
        for (int n = 0; n < 5; n++) {
            b.undo();
        }
        return b;
    }

    private static void undoAnswersHowMany() {
        Check.sentence(17, "Returns how many states are still remembered.");
        DogBoard b = Edges.busy();
        for (int left = 13; left >= 0; left--) {
            Check.due("undo", () -> b.undo(), left);
        }
    }

    private static void undoNeedsAState() {
        Check.sentence(17, "Throws `IllegalStateException` if none is remembered");
        Edges.refuses("undo of a new board", Edges::fresh, b -> b.undo(), Edges.STATE);
        Edges.refuses("undo behind load", () -> {
            DogBoard b = Edges.busy();
            b.load();
            return b;
        }, b -> b.undo(), Edges.STATE);
        Edges.refuses("undo behind restore", () -> {
            DogBoard b = Edges.busy();
            b.restore(0);
            return b;
        }, b -> b.undo(), Edges.STATE);
        Edges.refuses("a fifteenth undo", () -> {
            DogBoard b = Edges.busy();
            for (int n = 0; n < 14; n++) {
                b.undo();
            }
            return b;
        }, b -> b.undo(), Edges.STATE);
    }

    private static void boundsMeanOnesThatAreNotThere() {
        Check.sentence(0, "IndexOutOfBoundsException means that a corner, a dog, a finder or a sighting does not exist, or "
                + "that a save slot is not 0 or 1.");
        Edges.refuses("a corner", Edges::busy, b -> b.apart(12, 0, 0), Edges.BOUNDS);
        Edges.refuses("a dog that is not lost yet", Edges::busy, b -> b.canBe(3), Edges.BOUNDS);
        Edges.refuses("a finder", Edges::busy, b -> b.purse(8), Edges.BOUNDS);
        Edges.refuses("a sighting that is not told yet", Edges::busy, b -> b.sightingOf(5, 0), Edges.BOUNDS);
        Edges.refuses("a save slot", Edges::busy, b -> b.save(2), Edges.BOUNDS);
    }

    private static void argumentsOutOfTheirRange() {
        Check.sentence(0, "IllegalArgumentException means that another argument is out of its range.");
        Edges.refuses("marks", Edges::busy, b -> b.meant(256), Edges.ARGUMENT);
        Edges.refuses("a way", Edges::busy, b -> b.apart(0, 0, 2), Edges.ARGUMENT);
        Edges.refuses("hours", Edges::busy, b -> b.hours(0), Edges.ARGUMENT);
        Edges.refuses("a character", Edges::busy, b -> b.append(-1), Edges.ARGUMENT);
    }

    private static void statesAsTheMethodSays() {
        Check.sentence(0, "IllegalStateException means what the method says.");
        Edges.refuses("a full text", Edges::withFullText, b -> b.append('M'), Edges.STATE);
        Edges.refuses("no board", Edges::withFullText, b -> b.load(), Edges.STATE);
        Edges.refuses("six dogs", Edges::withSixDogs, b -> b.lose(1, 1, 0, 1), Edges.STATE);
        Edges.refuses("twenty sightings", Edges::withTwentySightings, b -> b.sight(0, 0, 0, 0, true), Edges.STATE);
        Edges.refuses("a found dog", Edges::busy, b -> b.find(2, 0, 0), Edges.STATE);
        Edges.refuses("nothing remembered", Edges::fresh, b -> b.undo(), Edges.STATE);
        Edges.refuses("a found dog's places", Edges::busy, b -> b.canBe(2), Edges.STATE);
        Edges.refuses("a found dog's reward", Edges::busy, b -> b.ifFound(2, 0, 0, 0), Edges.STATE);
        Edges.refuses("an empty slot", Edges::fresh, b -> b.restore(0), Edges.STATE);
    }

    private static void theFirstExceptionNamed() {
        Check.sentence(0, "If several exceptions apply to a call, the one that its description names first is thrown.");
        Edges.refuses("append", Edges::withFullText, b -> b.append(256), Edges.ARGUMENT);
        Edges.refuses("dogOf", Edges::busy, b -> b.dogOf(3, 11), Edges.BOUNDS);
        Edges.refuses("sightingOf", Edges::busy, b -> b.sightingOf(5, 9), Edges.BOUNDS);
        Edges.refuses("apart", Edges::busy, b -> b.apart(12, -1, 2), Edges.BOUNDS);
        Edges.refuses("lose", Edges::withSixDogs, b -> b.lose(0, 0, 12, 0), Edges.BOUNDS);
        Edges.refuses("lose at a corner", Edges::withSixDogs, b -> b.lose(0, 0, 11, 0), Edges.ARGUMENT);
        Edges.refuses("sight", Edges::withTwentySightings, b -> b.sight(8, 12, 256, 100, true), Edges.BOUNDS);
        Edges.refuses("sight at a corner", Edges::withTwentySightings, b -> b.sight(7, 11, 256, 100, true), Edges.ARGUMENT);
        Edges.refuses("find", Edges::busy, b -> b.find(2, 8, 12), Edges.BOUNDS);
        Edges.refuses("close", Edges::busy, b -> b.close(12, 12, true), Edges.BOUNDS);
        Edges.refuses("ifFound", Edges::busy, b -> b.ifFound(2, 0, 0, 8), Edges.BOUNDS);
        Edges.refuses("restore", Edges::fresh, b -> b.restore(2), Edges.BOUNDS);
    }

    private static final Edges.Question[] REFUSED = {
        b -> b.append(256), b -> b.load(), b -> b.about(11), b -> b.dogOf(3, 0), b -> b.dogOf(0, 11),
        b -> b.sightingOf(5, 0), b -> b.sightingOf(0, 9), b -> b.purse(8), b -> b.apart(0, 12, 0), b -> b.apart(0, 1, 2),
        b -> b.lose(1, 1, 12, 1), b -> b.lose(0, 1, 0, 1), b -> b.sight(8, 0, 0, 0, true), b -> b.sight(0, 0, 0, 32, true),
        b -> b.find(3, 0, 0), b -> b.find(2, 0, 0), b -> b.close(0, 12, true), b -> b.close(0, 5, true),
        b -> b.hours(100), b -> b.set(0, 51), b -> b.canBe(3), b -> b.canBe(2), b -> b.meant(256),
        b -> b.ifFound(0, 0, 0, 8), b -> b.ifFound(2, 0, 0, 0), b -> b.runScript(1, 1_000_000), b -> b.runScript(4, 0),
        b -> b.simulate(0, 61), b -> b.save(2), b -> b.restore(2)};

    private static DogBoard withHalfACommand() {
        DogBoard b = Edges.busy();
        Check.write(b, "s1");
        return b;
    }

    private static void exceptionsChangeNothing() {
        Check.sentence(0, "A call that throws an exception changes nothing.");
        Edges.onlyTells("one refused call of each kind", ActionEdges::withHalfACommand, b -> {
            int thrown = 0;
            for (Edges.Question question : REFUSED) {
                thrown += Check.answerOf(() -> question.of(b)) < -1 ? 1 : 0;
            }
            return thrown;
        }, REFUSED.length);
    }
}
