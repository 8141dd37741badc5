import java.util.Arrays;

/** A board of missing dogs: notices with rewards, sightings, and finders who share. */
public final class DogBoard {
    /** There is no such result. */
    public static final int NONE = -1;

    private static final int CORNERS = 12;
    private static final int FINDERS = 8;
    private static final int MOST_DOGS = 6;
    private static final int MOST_SIGHTINGS = 20;
    private static final int MOST_REWARD = 500;
    private static final int MOST_PACE = 3;
    private static final int MARKS = 8;
    private static final int ALL_MARKS = 255;
    private static final int MOST_HOURS = 99;
    private static final int HOURS_OF_A_DAY = 24;
    private static final int MOST_GROWTH = 50;
    private static final int FIRST_GROWTH = 5;
    private static final int FIRST_UNLIKE = 2;

    private static final int MOST_TEXT = 120;
    private static final int MOST_PARTS = 4;
    private static final int MOST_REMEMBERED = 14;
    private static final int SLOTS = 2;
    private static final int MOST_GROUPS = 3;
    private static final int GROUP = 1_000_000;
    private static final int MOST_TURNS = 60;

    // The numbers that a dog's row holds.
    private static final int DOG_MARKS = 0;
    private static final int DOG_PACE = 1;
    private static final int DOG_CORNER = 2;
    private static final int DOG_HOUR = 3;
    private static final int DOG_REWARD = 4;
    private static final int DOG_MISSING = 5;
    private static final int DOG_FOUND_CORNER = 6;
    private static final int DOG_FOUND_BY = 7;
    private static final int DOG_FOUND_HOUR = 8;
    private static final int DOG_SETTLED_TRUE = 9;
    private static final int DOG_SETTLED_FRAUDS = 10;
    private static final int DOG_FIELDS = 11;

    // The numbers that a sighting's row holds.
    private static final int SEEN_BY = 0;
    private static final int SEEN_CORNER = 1;
    private static final int SEEN_HOUR = 2;
    private static final int SEEN_MARKS = 3;
    private static final int SEEN_PHOTO = 4;
    private static final int SEEN_DOG = 5;
    private static final int SEEN_FIELDS = 6;

    // What an action says of its arguments ahead of being done.
    private static final int FINE = 0;
    private static final int NO_SUCH_ONE = 1;
    private static final int OUT_OF_RANGE = 2;
    private static final int NOT_NOW = 3;
    /** The answer of an action that was not done; below every answer that one can give. */
    private static final int REFUSED = -2;

    private final Board now = new Board();
    private final Board trial = new Board();
    private final History history = new History();
    private final Board[] slots = new Board[SLOTS];
    private final boolean[] filled = new boolean[SLOTS];
    private final Text text = new Text();

    public DogBoard() {
        for (int i = 0; i < slots.length; i++) {
            slots[i] = new Board();
        }
        now.makeNew();
    }

    // ---- text

    public int append(int c) throws IllegalArgumentException, IllegalStateException {
        if (!isIn(c, 0, 255)) {
            throw new IllegalArgumentException("a character is 0 to 255");
        }
        if (text.isFull()) {
            throw new IllegalStateException("the text is full");
        }
        return text.add(c);
    }

    public int clearText() {
        return text.empty();
    }

    public int errorPosition() {
        return text.firstError();
    }

    public int load() throws IllegalStateException {
        if (text.firstError() != NONE) {
            throw new IllegalStateException("the text is not a board");
        }
        now.makeNew();
        history.forgetAll();
        for (int i = 0; i < filled.length; i++) {
            filled[i] = false;
        }
        int leftOut = 0;
        text.readStart();
        for (int i = 0; i < MOST_TEXT && text.hasMore(); i++) {
            boolean isDone = text.readCommand() && text.doCommand(now) != REFUSED;
            leftOut += isDone ? 0 : 1;
        }
        return leftOut;
    }

    // ---- what there is

    public int about(int what) throws IllegalArgumentException {
        if (!isIn(what, 0, 10)) {
            throw new IllegalArgumentException("there is no such number of the board");
        }
        return now.numberOfBoard(what);
    }

    public int dogOf(int d, int what) throws IndexOutOfBoundsException, IllegalArgumentException {
        if (!now.dogs.has(d)) {
            throw new IndexOutOfBoundsException("there is no such dog");
        }
        if (!isIn(what, 0, 10)) {
            throw new IllegalArgumentException("there is no such number of a dog");
        }
        return now.numberOfDog(d, what);
    }

    public int sightingOf(int s, int what) throws IndexOutOfBoundsException, IllegalArgumentException {
        if (!now.sightings.has(s)) {
            throw new IndexOutOfBoundsException("there is no such sighting");
        }
        if (!isIn(what, 0, 8)) {
            throw new IllegalArgumentException("there is no such number of a sighting");
        }
        return now.numberOfSighting(s, what);
    }

    public int purse(int f) throws IndexOutOfBoundsException {
        if (!isFinder(f)) {
            throw new IndexOutOfBoundsException("there is no such finder");
        }
        return now.coinsOf(f);
    }

    public int apart(int a, int b, int way) throws IndexOutOfBoundsException, IllegalArgumentException {
        if (!isCorner(a) || !isCorner(b)) {
            throw new IndexOutOfBoundsException("there is no such corner");
        }
        if (!isIn(way, 0, 1)) {
            throw new IllegalArgumentException("a way of telling is 0 or 1");
        }
        return way == 0 ? now.quarter.wayBetween(a, b) : now.quarter.wayBySweeps(a, b);
    }

    // ---- actions

    public int lose(int marks, int pace, int corner, int reward)
            throws IndexOutOfBoundsException, IllegalArgumentException, IllegalStateException {
        throwFor(now.faultOfLosing(marks, pace, corner, reward));
        history.remember(now);
        return now.loseDog(marks, pace, corner, reward);
    }

    public int sight(int finder, int corner, int marks, int ago, boolean photo)
            throws IndexOutOfBoundsException, IllegalArgumentException, IllegalStateException {
        throwFor(now.faultOfTelling(finder, corner, marks, ago));
        history.remember(now);
        return now.tellSighting(finder, corner, marks, ago, photo);
    }

    public int find(int d, int finder, int corner) throws IndexOutOfBoundsException, IllegalStateException {
        throwFor(now.faultOfFinding(d, finder, corner));
        history.remember(now);
        return now.findDog(d, finder, corner);
    }

    public int close(int a, int b, boolean on) throws IndexOutOfBoundsException, IllegalArgumentException {
        throwFor(now.faultOfClosing(a, b));
        history.remember(now);
        return now.closeStreet(a, b, on);
    }

    public int hours(int n) throws IllegalArgumentException {
        throwFor(now.faultOfPassing(n));
        history.remember(now);
        return now.passHours(n);
    }

    public int set(int what, int v) throws IllegalArgumentException {
        throwFor(now.faultOfSetting(what, v));
        history.remember(now);
        return now.changeSetting(what, v);
    }

    public int undo() throws IllegalStateException {
        if (history.isEmpty()) {
            throw new IllegalStateException("no state is remembered");
        }
        return history.giveBack(now);
    }

    // ---- what would be

    public int canBe(int d) throws IndexOutOfBoundsException, IllegalStateException {
        throwFor(now.faultOfAsking(d));
        return now.placesOf(d);
    }

    public int watch() {
        return now.cornerToWatch();
    }

    public int meant(int marks) throws IllegalArgumentException {
        if (!isIn(marks, 0, ALL_MARKS)) {
            throw new IllegalArgumentException("marks are 0 to 255");
        }
        return now.dogMeantBy(marks, now.hour);
    }

    public int ifFound(int d, int finder, int corner, int other)
            throws IndexOutOfBoundsException, IllegalStateException {
        throwFor(isFinder(other) ? now.faultOfFinding(d, finder, corner) : NO_SUCH_ONE);
        return now.shareOf(d, finder, corner, other);
    }

    // ---- scripts, simulations

    public int runScript(int n, long script) throws IllegalArgumentException {
        if (!isIn(n, 1, MOST_GROUPS)) {
            throw new IllegalArgumentException("a script has 1 to 3 commands");
        }
        long unit = 1;
        for (int i = 0; i < n; i++) {
            unit *= GROUP;
        }
        if (script < 0 || script >= unit) {
            throw new IllegalArgumentException("a script has six digits for each command");
        }
        trial.copyFrom(now);
        for (int i = 0; i < n; i++) {
            unit /= GROUP;
            int group = unit > 0 ? (int) (script / unit % GROUP) : 0;
            if (!Script.succeeds(trial, group)) {
                return i;
            }
        }
        return NONE;
    }

    public int simulate(long seed, int m) throws IllegalArgumentException {
        if (!isIn(m, 1, MOST_TURNS)) {
            throw new IllegalArgumentException("the turns are 1 to 60");
        }
        trial.copyFrom(now);
        long x = seed;
        for (int turn = 0; turn < m; turn++) {
            x = x * 6364136223846793005L + 1442695040888963407L;
            Simulation.playTurn(trial, (int) (x >>> 33));
        }
        int given = trial.given - now.given;
        return 1000 * (given % 1000) + 10 * trial.fraudsInAll() + trial.missingDogs();
    }

    // ---- save slots

    public int save(int slot) throws IndexOutOfBoundsException {
        if (!isSlot(slot)) {
            throw new IndexOutOfBoundsException("a save slot is 0 or 1");
        }
        Board kept = slots[slot];
        if (kept != null) {
            kept.copyFrom(now);
            filled[slot] = true;
        }
        return now.hour;
    }

    public int restore(int slot) throws IndexOutOfBoundsException, IllegalStateException {
        if (!isSlot(slot)) {
            throw new IndexOutOfBoundsException("a save slot is 0 or 1");
        }
        Board kept = slots[slot];
        if (!filled[slot] || kept == null) {
            throw new IllegalStateException("nothing has been saved in this slot");
        }
        now.copyFrom(kept);
        history.forgetAll();
        return now.hour;
    }

    private boolean isSlot(int slot) {
        return slot >= 0 && slot < slots.length && slot < filled.length;
    }

    private static boolean isIn(int v, int least, int most) {
        return v >= least && v <= most;
    }

    private static boolean isCorner(int c) {
        return isIn(c, 0, CORNERS - 1);
    }

    private static boolean isFinder(int f) {
        return isIn(f, 0, FINDERS - 1);
    }

    private static boolean hasBit(int bits, int i) {
        return (bits >> i & 1) != 0;
    }

    private static void throwFor(int fault) {
        switch (fault) {
            case NO_SUCH_ONE:
                throw new IndexOutOfBoundsException("there is no such dog, corner or finder");
            case OUT_OF_RANGE:
                throw new IllegalArgumentException("an argument is out of its range");
            case NOT_NOW:
                throw new IllegalStateException("the board does not allow this now");
            default:
                break;
        }
    }

    /** Rows of numbers, added one by one and never taken away singly. */
    private static final class Rows {
        private final int most;
        private final int width;
        private final int[] cells;
        private int count;

        Rows(int most, int width) {
            this.most = most;
            this.width = width;
            this.cells = new int[Math.max(0, most * width)];
        }

        int count() {
            return count;
        }

        boolean isFull() {
            return count >= most;
        }

        boolean has(int row) {
            return row >= 0 && row < count;
        }

        /** Adds a row of zeros and returns its number; NONE if there is no room. */
        int addRow() {
            if (isFull()) {
                return NONE;
            }
            int row = count;
            count++;
            for (int field = 0; field < width; field++) {
                put(row, field, 0);
            }
            return row;
        }

        int get(int row, int field) {
            int i = row * width + field;
            return row >= 0 && row < count && i >= 0 && i < cells.length ? cells[i] : 0;
        }

        void put(int row, int field, int value) {
            int i = row * width + field;
            if (row >= 0 && row < count && i >= 0 && i < cells.length) {
                cells[i] = value;
            }
        }

        void empty() {
            count = 0;
        }

        void copyFrom(Rows other) {
            System.arraycopy(other.cells, 0, cells, 0, Math.min(other.cells.length, cells.length));
            count = other.count;
        }
    }

    /** Twelve corners, the streets between them, and how far the corners are apart. */
    private static final class Quarter {
        /** The two ends of each street, one street behind the other. */
        private static final int[] ENDS = {
            0, 1, 1, 2, 2, 3, 4, 5, 5, 6, 6, 7, 8, 9, 9, 10, 10, 11,
            0, 4, 1, 5, 2, 6, 3, 7, 4, 8, 5, 9, 6, 10, 7, 11
        };
        /** More streets than any way has. */
        private static final int FAR = 1000;

        // Kept, since a way is asked for far oftener than a street is closed.
        private final int[] ways = new int[CORNERS * CORNERS];
        private final int[] sweep = new int[CORNERS];
        private int closed;

        void openAll() {
            closed = 0;
            measureAll();
        }

        void copyFrom(Quarter other) {
            System.arraycopy(other.ways, 0, ways, 0, Math.min(other.ways.length, ways.length));
            closed = other.closed;
        }

        int closedStreets() {
            return Integer.bitCount(closed);
        }

        static int streetBetween(int a, int b) {
            for (int i = 0; i + 1 < ENDS.length; i += 2) {
                if (ENDS[i] == a && ENDS[i + 1] == b || ENDS[i] == b && ENDS[i + 1] == a) {
                    return i / 2;
                }
            }
            return NONE;
        }

        void setClosed(int street, boolean on) {
            int before = closed;
            closed = on ? closed | 1 << street : closed & ~(1 << street);
            if (closed != before) {
                measureAll();
            }
        }

        int wayBetween(int a, int b) {
            int i = a * CORNERS + b;
            return i >= 0 && i < ways.length ? ways[i] : NONE;
        }

        boolean isWithin(int a, int b, int streets) {
            int i = a * CORNERS + b;
            return i >= 0 && i < ways.length && ways[i] != NONE && ways[i] <= streets;
        }

        private void measureAll() {
            Arrays.fill(ways, NONE);
            for (int start = 0; start < CORNERS; start++) {
                int reached = 0;
                int edge = 1 << start;
                for (int steps = 0; steps < CORNERS && edge != 0; steps++) {
                    noteWays(start, edge, steps);
                    reached |= edge;
                    edge = besideAnyOf(edge) & ~reached;
                }
            }
        }

        private void noteWays(int start, int corners, int steps) {
            for (int c = 0; c < CORNERS; c++) {
                int i = start * CORNERS + c;
                if (hasBit(corners, c) && i >= 0 && i < ways.length) {
                    ways[i] = steps;
                }
            }
        }

        private int besideAnyOf(int corners) {
            int beside = 0;
            for (int i = 0; i + 1 < ENDS.length; i += 2) {
                if (!hasBit(closed, i / 2)) {
                    beside |= hasBit(corners, ENDS[i]) ? 1 << ENDS[i + 1] : 0;
                    beside |= hasBit(corners, ENDS[i + 1]) ? 1 << ENDS[i] : 0;
                }
            }
            return beside;
        }

        int wayBySweeps(int a, int b) {
            if (a < 0 || a >= sweep.length || b < 0 || b >= sweep.length) {
                return NONE;
            }
            Arrays.fill(sweep, FAR);
            sweep[a] = 0;
            boolean changed = true;
            for (int round = 0; round <= CORNERS && changed; round++) {
                changed = sweepOnce();
            }
            return sweep[b] == FAR ? NONE : sweep[b];
        }

        private boolean sweepOnce() {
            boolean changed = false;
            for (int i = 0; i + 1 < ENDS.length; i += 2) {
                if (!hasBit(closed, i / 2) && shortensEither(ENDS[i], ENDS[i + 1])) {
                    changed = true;
                }
            }
            return changed;
        }

        /** At most one of the two can become nearer by the street between them. */
        private boolean shortensEither(int a, int b) {
            return shortens(a, b) || shortens(b, a);
        }

        private boolean shortens(int from, int to) {
            if (from < 0 || from >= sweep.length || to < 0 || to >= sweep.length) {
                return false;
            }
            if (sweep[from] + 1 >= sweep[to]) {
                return false;
            }
            sweep[to] = sweep[from] + 1;
            return true;
        }
    }

    /** The state: the quarter, dogs, sightings, coins, settings and the hour. Sets of sightings are bits. */
    private static final class Board {
        private final Quarter quarter = new Quarter();
        private final Rows dogs = new Rows(MOST_DOGS, DOG_FIELDS);
        private final Rows sightings = new Rows(MOST_SIGHTINGS, SEEN_FIELDS);
        private final int[] purses = new int[FINDERS];
        private final int[] places = new int[MOST_DOGS];
        private int hour;
        private int paid;
        private int given;
        private int stayed;
        private int growth;
        private int mostUnlike;

        void makeNew() {
            quarter.openAll();
            dogs.empty();
            sightings.empty();
            Arrays.fill(purses, 0);
            hour = 0;
            paid = 0;
            given = 0;
            stayed = 0;
            growth = FIRST_GROWTH;
            mostUnlike = FIRST_UNLIKE;
        }

        void copyFrom(Board other) {
            quarter.copyFrom(other.quarter);
            dogs.copyFrom(other.dogs);
            sightings.copyFrom(other.sightings);
            System.arraycopy(other.purses, 0, purses, 0, Math.min(other.purses.length, purses.length));
            hour = other.hour;
            paid = other.paid;
            given = other.given;
            stayed = other.stayed;
            growth = other.growth;
            mostUnlike = other.mostUnlike;
        }

        // -- what there is

        int numberOfBoard(int what) {
            switch (what) {
                case 0: return dogs.count();
                case 1: return missingDogs();
                case 2: return sightings.count();
                case 3: return hour;
                case 4: return paid;
                case 5: return given;
                case 6: return stayed;
                case 7: return missingRewards();
                case 8: return fraudsInAll();
                case 9: return Integer.bitCount(sightingsMeaning(NONE));
                case 10: return quarter.closedStreets();
                default: return NONE;
            }
        }

        int numberOfDog(int d, int what) {
            switch (what) {
                case 0: return dogs.get(d, DOG_MARKS);
                case 1: return dogs.get(d, DOG_PACE);
                case 2: return dogs.get(d, DOG_CORNER);
                case 3: return dogs.get(d, DOG_HOUR);
                case 4: return dogs.get(d, DOG_REWARD);
                case 5: return dogs.get(d, DOG_MISSING);
                case 6: return Integer.bitCount(sightingsMeaning(d));
                case 7: return Integer.bitCount(honestFor(d));
                case 8: return dogs.get(d, DOG_FOUND_CORNER);
                case 9: return dogs.get(d, DOG_FOUND_BY);
                case 10: return dogs.get(d, DOG_FOUND_HOUR);
                default: return NONE;
            }
        }

        int numberOfSighting(int s, int what) {
            int dog = sightings.get(s, SEEN_DOG);
            switch (what) {
                case 0: return sightings.get(s, SEEN_BY);
                case 1: return sightings.get(s, SEEN_CORNER);
                case 2: return sightings.get(s, SEEN_HOUR);
                case 3: return sightings.get(s, SEEN_MARKS);
                case 4: return sightings.get(s, SEEN_PHOTO);
                case 5: return dog;
                case 6: return dog == NONE ? NONE : unlikeMarks(dog, sightings.get(s, SEEN_MARKS));
                case 7: return dog == NONE ? NONE : trueFor(dog) >> s & 1;
                case 8: return dog == NONE ? 0 : fraudsFor(dog) >> s & 1;
                default: return NONE;
            }
        }

        int coinsOf(int f) {
            return f >= 0 && f < purses.length ? purses[f] : 0;
        }

        boolean isMissing(int d) {
            return dogs.get(d, DOG_MISSING) == 1;
        }

        int missingDogs() {
            int missing = 0;
            for (int d = 0; d < dogs.count(); d++) {
                missing += dogs.get(d, DOG_MISSING);
            }
            return missing;
        }

        private int missingRewards() {
            int coins = 0;
            for (int d = 0; d < dogs.count(); d++) {
                coins += isMissing(d) ? dogs.get(d, DOG_REWARD) : 0;
            }
            return coins;
        }

        int fraudsInAll() {
            int frauds = 0;
            for (int d = 0; d < dogs.count(); d++) {
                frauds += Integer.bitCount(fraudsFor(d));
            }
            return frauds;
        }

        // -- sightings

        private int unlikeMarks(int d, int marks) {
            return Integer.bitCount(dogs.get(d, DOG_MARKS) ^ marks);
        }

        int dogMeantBy(int marks, int seenHour) {
            int best = NONE;
            for (int d = 0; d < dogs.count(); d++) {
                boolean canMean = isMissing(d) && dogs.get(d, DOG_HOUR) <= seenHour
                        && unlikeMarks(d, marks) <= mostUnlike;
                if (canMean && (best == NONE || isMeantBefore(d, best, marks))) {
                    best = d;
                }
            }
            return best;
        }

        private boolean isMeantBefore(int d, int other, int marks) {
            int unlike = unlikeMarks(d, marks);
            int otherUnlike = unlikeMarks(other, marks);
            if (unlike != otherUnlike) {
                return unlike < otherUnlike;
            }
            return dogs.get(d, DOG_REWARD) > dogs.get(other, DOG_REWARD);
        }

        private int sightingsMeaning(int dog) {
            int meaning = 0;
            for (int s = 0; s < sightings.count(); s++) {
                meaning |= sightings.get(s, SEEN_DOG) == dog ? 1 << s : 0;
            }
            return meaning;
        }

        /** The sightings that mean the dog and are true to it. */
        private int trueFor(int d) {
            return isMissing(d) ? trueNowFor(d) : dogs.get(d, DOG_SETTLED_TRUE);
        }

        private int trueNowFor(int d) {
            int truths = 0;
            for (int s = 0; s < sightings.count(); s++) {
                int streets = dogs.get(d, DOG_PACE) * (sightings.get(s, SEEN_HOUR) - dogs.get(d, DOG_HOUR));
                int corner = sightings.get(s, SEEN_CORNER);
                boolean isMeant = sightings.get(s, SEEN_DOG) == d;
                if (isMeant && quarter.isWithin(dogs.get(d, DOG_CORNER), corner, streets)) {
                    truths |= 1 << s;
                }
            }
            return truths;
        }

        private int fraudsFor(int d) {
            if (!isMissing(d)) {
                return dogs.get(d, DOG_SETTLED_FRAUDS);
            }
            int truths = trueNowFor(d);
            int frauds = sightingsMeaning(d) & ~truths;
            for (int s = 0; s < sightings.count(); s++) {
                int others = truths & ~(1 << s);
                boolean mustFit = hasBit(truths, s) && sightings.get(s, SEEN_PHOTO) == 0 && others != 0;
                if (mustFit && !fitsOneOf(others, s, dogs.get(d, DOG_PACE))) {
                    frauds |= 1 << s;
                }
            }
            return frauds;
        }

        private boolean fitsOneOf(int others, int s, int pace) {
            for (int i = 0; i < sightings.count(); i++) {
                int between = Math.abs(sightings.get(s, SEEN_HOUR) - sightings.get(i, SEEN_HOUR));
                if (hasBit(others, i) && quarter.isWithin(sightings.get(s, SEEN_CORNER),
                        sightings.get(i, SEEN_CORNER), pace * between)) {
                    return true;
                }
            }
            return false;
        }

        private int honestFor(int d) {
            return sightingsMeaning(d) & ~fraudsFor(d);
        }

        // -- where a dog can be

        int faultOfAsking(int d) {
            if (!dogs.has(d)) {
                return NO_SUCH_ONE;
            }
            return isMissing(d) ? FINE : NOT_NOW;
        }

        int placesOf(int d) {
            int honest = honestFor(d);
            int corners = 0;
            for (int c = 0; c < CORNERS; c++) {
                corners |= canReach(d, c, honest) ? 1 << c : 0;
            }
            return corners;
        }

        private boolean canReach(int d, int corner, int honest) {
            int pace = dogs.get(d, DOG_PACE);
            int sinceLoss = hour - dogs.get(d, DOG_HOUR);
            if (!quarter.isWithin(dogs.get(d, DOG_CORNER), corner, pace * sinceLoss)) {
                return false;
            }
            for (int s = 0; s < sightings.count(); s++) {
                int since = hour - sightings.get(s, SEEN_HOUR);
                if (hasBit(honest, s) && !quarter.isWithin(sightings.get(s, SEEN_CORNER), corner, pace * since)) {
                    return false;
                }
            }
            return true;
        }

        int cornerToWatch() {
            if (missingDogs() == 0) {
                return NONE;
            }
            for (int d = 0; d < places.length; d++) {
                places[d] = isMissing(d) ? placesOf(d) : 0;
            }
            int best = 0;
            for (int c = 1; c < CORNERS; c++) {
                int more = dogsAt(c) - dogsAt(best);
                if (more > 0 || more == 0 && rewardsAt(c) > rewardsAt(best)) {
                    best = c;
                }
            }
            return best;
        }

        private int dogsAt(int corner) {
            int count = 0;
            for (int d = 0; d < places.length; d++) {
                count += places[d] >> corner & 1;
            }
            return count;
        }

        private int rewardsAt(int corner) {
            int coins = 0;
            for (int d = 0; d < places.length; d++) {
                coins += hasBit(places[d], corner) ? dogs.get(d, DOG_REWARD) : 0;
            }
            return coins;
        }

        // -- actions

        int faultOfLosing(int marks, int pace, int corner, int reward) {
            if (!isCorner(corner)) {
                return NO_SUCH_ONE;
            }
            if (!isIn(marks, 1, ALL_MARKS) || !isIn(pace, 1, MOST_PACE) || !isIn(reward, 1, MOST_REWARD)) {
                return OUT_OF_RANGE;
            }
            return dogs.isFull() ? NOT_NOW : FINE;
        }

        int loseDog(int marks, int pace, int corner, int reward) {
            if (faultOfLosing(marks, pace, corner, reward) != FINE) {
                return REFUSED;
            }
            int d = dogs.addRow();
            dogs.put(d, DOG_MARKS, marks);
            dogs.put(d, DOG_PACE, pace);
            dogs.put(d, DOG_CORNER, corner);
            dogs.put(d, DOG_HOUR, hour);
            dogs.put(d, DOG_REWARD, reward);
            dogs.put(d, DOG_MISSING, 1);
            dogs.put(d, DOG_FOUND_CORNER, NONE);
            dogs.put(d, DOG_FOUND_BY, NONE);
            dogs.put(d, DOG_FOUND_HOUR, NONE);
            paid += reward;
            return d;
        }

        int faultOfTelling(int finder, int corner, int marks, int ago) {
            if (!isFinder(finder) || !isCorner(corner)) {
                return NO_SUCH_ONE;
            }
            if (!isIn(marks, 0, ALL_MARKS) || !isIn(ago, 0, MOST_HOURS) || ago > hour) {
                return OUT_OF_RANGE;
            }
            return sightings.isFull() ? NOT_NOW : FINE;
        }

        int tellSighting(int finder, int corner, int marks, int ago, boolean photo) {
            if (faultOfTelling(finder, corner, marks, ago) != FINE) {
                return REFUSED;
            }
            int dog = dogMeantBy(marks, hour - ago);
            int s = sightings.addRow();
            sightings.put(s, SEEN_BY, finder);
            sightings.put(s, SEEN_CORNER, corner);
            sightings.put(s, SEEN_HOUR, hour - ago);
            sightings.put(s, SEEN_MARKS, marks);
            sightings.put(s, SEEN_PHOTO, photo ? 1 : 0);
            sightings.put(s, SEEN_DOG, dog);
            return dog;
        }

        int faultOfFinding(int d, int finder, int corner) {
            return isFinder(finder) && isCorner(corner) ? faultOfAsking(d) : NO_SUCH_ONE;
        }

        int findDog(int d, int finder, int corner) {
            if (faultOfFinding(d, finder, corner) != FINE) {
                return REFUSED;
            }
            int truths = trueFor(d);
            int frauds = fraudsFor(d);
            int honest = sightingsMeaning(d) & ~frauds;
            int before = coinsOf(finder);
            int left = dogs.get(d, DOG_REWARD);
            for (int f = 0; f < purses.length; f++) {
                int coins = shareBy(d, honest, finder, corner, f);
                purses[f] += coins;
                given += coins;
                left -= coins;
            }
            stayed += left;
            dogs.put(d, DOG_MISSING, 0);
            dogs.put(d, DOG_FOUND_CORNER, corner);
            dogs.put(d, DOG_FOUND_BY, finder);
            dogs.put(d, DOG_FOUND_HOUR, hour);
            dogs.put(d, DOG_SETTLED_TRUE, truths);
            dogs.put(d, DOG_SETTLED_FRAUDS, frauds);
            return coinsOf(finder) - before;
        }

        int shareOf(int d, int finder, int corner, int other) {
            return shareBy(d, honestFor(d), finder, corner, other);
        }

        private int shareBy(int d, int honest, int finder, int corner, int other) {
            int helpOfOther = other == finder ? 3 : 0;
            int helpOfAll = 3;
            for (int s = 0; s < sightings.count(); s++) {
                int help = hasBit(honest, s) ? helpOf(s, corner) : 0;
                helpOfAll += help;
                helpOfOther += sightings.get(s, SEEN_BY) == other ? help : 0;
            }
            return helpOfAll > 0 ? dogs.get(d, DOG_REWARD) * helpOfOther / helpOfAll : 0;
        }

        private int helpOf(int s, int corner) {
            int near = quarter.isWithin(sightings.get(s, SEEN_CORNER), corner, 1) ? 1 : 0;
            return 1 + sightings.get(s, SEEN_PHOTO) + near;
        }

        int faultOfClosing(int a, int b) {
            if (!isCorner(a) || !isCorner(b)) {
                return NO_SUCH_ONE;
            }
            return Quarter.streetBetween(a, b) == NONE ? OUT_OF_RANGE : FINE;
        }

        int closeStreet(int a, int b, boolean on) {
            if (faultOfClosing(a, b) != FINE) {
                return REFUSED;
            }
            quarter.setClosed(Quarter.streetBetween(a, b), on);
            return quarter.closedStreets();
        }

        int faultOfPassing(int n) {
            return isIn(n, 1, MOST_HOURS) ? FINE : OUT_OF_RANGE;
        }

        int passHours(int n) {
            if (faultOfPassing(n) != FINE) {
                return REFUSED;
            }
            int grown = 0;
            for (int d = 0; d < dogs.count(); d++) {
                int since = hour - dogs.get(d, DOG_HOUR);
                int days = (since + n) / HOURS_OF_A_DAY - since / HOURS_OF_A_DAY;
                int coins = isMissing(d) ? days * growth : 0;
                dogs.put(d, DOG_REWARD, dogs.get(d, DOG_REWARD) + coins);
                grown += coins;
            }
            hour += n;
            paid += grown;
            return grown;
        }

        int faultOfSetting(int what, int v) {
            boolean allowed = what == 0 && isIn(v, 0, MOST_GROWTH) || what == 1 && isIn(v, 0, MARKS);
            return allowed ? FINE : OUT_OF_RANGE;
        }

        int changeSetting(int what, int v) {
            if (faultOfSetting(what, v) != FINE) {
                return REFUSED;
            }
            int before = what == 0 ? growth : mostUnlike;
            if (what == 0) {
                growth = v;
            } else {
                mostUnlike = v;
            }
            return before;
        }
    }

    /** The states that undo can go back to, in a ring, so that the oldest one is overwritten first. */
    private static final class History {
        private final Board[] states = new Board[MOST_REMEMBERED];
        private int oldest;
        private int count;

        History() {
            for (int i = 0; i < states.length; i++) {
                states[i] = new Board();
            }
        }

        boolean isEmpty() {
            return count == 0;
        }

        void forgetAll() {
            oldest = 0;
            count = 0;
        }

        private Board stateAt(int age) {
            int i = (oldest + age) % MOST_REMEMBERED;
            return i >= 0 && i < states.length ? states[i] : null;
        }

        void remember(Board board) {
            Board place = stateAt(count);
            if (place == null) {
                return;
            }
            place.copyFrom(board);
            if (count < MOST_REMEMBERED) {
                count++;
            } else {
                oldest = (oldest + 1) % MOST_REMEMBERED;
            }
        }

        /** Makes the board as it was remembered last, and returns how many states are left. */
        int giveBack(Board board) {
            Board last = count > 0 ? stateAt(count - 1) : null;
            if (last != null) {
                board.copyFrom(last);
                count--;
            }
            return count;
        }
    }

    /** The text buffer, and the reader that goes through it from left to right. */
    private static final class Text {
        private final int[] signs = new int[MOST_TEXT];
        private int length;
        private int position;
        private int letter;
        private final int[] parts = new int[MOST_PARTS];
        private int partCount;

        boolean isFull() {
            return length >= signs.length;
        }

        int add(int c) {
            if (length >= 0 && length < signs.length) {
                signs[length] = c;
                length++;
            }
            return length;
        }

        int empty() {
            int before = length;
            length = 0;
            return before;
        }

        int firstError() {
            boolean allowed = readStart();
            for (int i = 0; i < MOST_TEXT && allowed && hasMore(); i++) {
                allowed = readCommand();
            }
            return allowed ? NONE : position;
        }

        boolean hasMore() {
            return position < length;
        }

        /** Does the command that was read last; REFUSED if the board doesn't allow it. */
        int doCommand(Board board) {
            switch (letter) {
                case 'd': return board.loseDog(part(0), part(1), part(2), part(3));
                case 's': return board.tellSighting(part(0), part(1), part(2), 0, part(3) == 1);
                case 'f': return board.findDog(part(0), part(1), part(2));
                case 'x': return board.closeStreet(part(0), part(1), part(2) == 1);
                case 'h': return board.passHours(part(0));
                default: return REFUSED;
            }
        }

        boolean readStart() {
            position = 0;
            if (signHere() != 'M') {
                return false;
            }
            position++;
            return true;
        }

        /** Reads one command; if it can't, the position stays at the first sign that is not allowed. */
        boolean readCommand() {
            letter = signHere();
            partCount = 0;
            switch (letter) {
                case 'd':
                    position++;
                    return readNumber(3, 1, ALL_MARKS) && readNumber(1, 1, MOST_PACE) && readCorner()
                            && readNumber(3, 1, MOST_REWARD);
                case 's':
                    position++;
                    return readFinder() && readCorner() && readNumber(3, 0, ALL_MARKS) && readPlusOrMinus();
                case 'f':
                    position++;
                    return readNumber(1, 0, MOST_DOGS - 1) && readFinder() && readCorner();
                case 'x':
                    position++;
                    return readCorner() && readCorner() && readPlusOrMinus();
                case 'h':
                    position++;
                    return readNumber(2, 1, MOST_HOURS);
                default:
                    return false;
            }
        }

        private boolean readCorner() {
            return readNumber(2, 0, CORNERS - 1);
        }

        private boolean readFinder() {
            return readNumber(1, 0, FINDERS - 1);
        }

        private boolean readNumber(int digits, int least, int most) {
            int unit = 1;
            for (int i = 1; i < digits; i++) {
                unit *= 10;
            }
            int value = 0;
            for (int i = 0; i < digits; i++) {
                int sign = signHere();
                // The numbers that begin like this one lie between value and value + unit - 1.
                value += (sign - '0') * unit;
                if (sign < '0' || sign > '9' || value > most || value + unit - 1 < least) {
                    return false;
                }
                position++;
                unit /= 10;
            }
            keepPart(value);
            return true;
        }

        private boolean readPlusOrMinus() {
            int sign = signHere();
            if (sign != '+' && sign != '-') {
                return false;
            }
            position++;
            keepPart(sign == '+' ? 1 : 0);
            return true;
        }

        private void keepPart(int value) {
            if (partCount >= 0 && partCount < parts.length) {
                parts[partCount] = value;
                partCount++;
            }
        }

        private int part(int i) {
            return i >= 0 && i < partCount && i < parts.length ? parts[i] : NONE;
        }

        private int signHere() {
            boolean isThere = position >= 0 && position < length && position < signs.length;
            return isThere ? signs[position] : NONE;
        }
    }

    /** The commands of a script, each a number of six digits. */
    private static final class Script {
        static boolean succeeds(Board board, int group) {
            int second = group / 10_000 % 10;
            int third = group / 1000 % 10;
            int middle = group / 100 % 100;
            int fifth = group / 10 % 10;
            int last = group % 10;
            int lastTwo = group % 100;
            int lastThree = group % 1000;
            switch (group / 100_000) {
                case 1:
                    return second == 0 && middle == 0 && board.passHours(lastTwo) != REFUSED;
                case 2:
                    return fifth < MARKS && last == 0
                            && board.tellSighting(second, middle, 1 << fifth, 0, false) >= 0;
                case 3:
                    return last == 0 && board.findDog(second, third, group / 10 % 100) != REFUSED;
                case 4:
                    return last <= 1
                            && board.closeStreet(group / 1000 % 100, group / 10 % 100, last == 1) != REFUSED;
                case 5:
                    return middle == 0 && board.changeSetting(second, lastTwo) != REFUSED;
                case 6:
                    return lastTwo == 0 && isCorner(middle) && board.isMissing(second)
                            && hasBit(board.placesOf(second), middle);
                case 7:
                    return second == 0 && middle == 0 && board.fraudsInAll() <= lastTwo;
                case 8:
                    return third == 0 && board.dogs.has(second)
                            && board.dogs.get(second, DOG_REWARD) >= lastThree;
                case 9:
                    return third == 0 && isFinder(second) && board.coinsOf(second) >= lastThree;
                default:
                    return false;
            }
        }
    }

    /** The turns of a simulation, each told by a number that is 0 or more. */
    private static final class Simulation {
        /** What the turn's action answers; REFUSED if it is left out. */
        static int playTurn(Board board, int r) {
            int q = r / 8;
            switch (r % 8) {
                case 0:
                    return board.loseDog(1 + q % 255, 1 + q / 256 % 3, q / 1024 % 12, 1 + q / 16384 % 500);
                case 1:
                case 2:
                case 3:
                    return board.tellSighting(q % 8, q / 8 % 12, q / 128 % 256, q / 32768 % 6, q / 262144 % 2 == 1);
                case 4:
                    return board.findDog(q % 6, q / 8 % 8, q / 64 % 12);
                case 5:
                    return board.closeStreet(q % 12, q % 12 + (q / 16 % 2 == 0 ? 1 : 4), q / 64 % 2 == 1);
                default:
                    return board.passHours(1 + q % 30);
            }
        }
    }
}
