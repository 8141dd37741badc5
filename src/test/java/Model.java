import java.util.ArrayDeque;
import java.util.ArrayList;
import java.util.Arrays;
import java.util.Deque;
import java.util.HashSet;
import java.util.List;
import java.util.Set;
import java.util.TreeSet;
import java.util.regex.Matcher;
import java.util.regex.Pattern;

/**
 * The document once more, written as slowly and plainly as can be and in another way than the class,
 * so that a slip in one of them shows as a difference between both.
 */
final class Model {
    private static final String CORNER = "(?:0\\d|1[01])";
    private static final String ANY_MARKS = "(?:[01]\\d\\d|2[0-4]\\d|25[0-5])";
    private static final String SOME_MARKS = "(?:00[1-9]|0[1-9]\\d|1\\d\\d|2[0-4]\\d|25[0-5])";
    private static final String COINS = "(?:00[1-9]|0[1-9]\\d|[1-4]\\d\\d|500)";
    private static final Pattern COMMAND = Pattern.compile(
            "d" + SOME_MARKS + "[1-3]" + CORNER + COINS
            + "|s[0-7]" + CORNER + ANY_MARKS + "[+-]"
            + "|f[0-5][0-7]" + CORNER
            + "|x" + CORNER + CORNER + "[+-]"
            + "|h(?:0[1-9]|[1-9]\\d)");
    private static final Pattern BOARD = Pattern.compile("M(?:" + COMMAND.pattern() + ")*");

    private static final class Dog {
        int marks;
        int pace;
        int corner;
        int hour;
        int reward;
        boolean missing = true;
        int foundCorner = -1;
        int foundBy = -1;
        int foundHour = -1;

        Dog copy() {
            Dog d = new Dog();
            d.marks = marks;
            d.pace = pace;
            d.corner = corner;
            d.hour = hour;
            d.reward = reward;
            d.missing = missing;
            d.foundCorner = foundCorner;
            d.foundBy = foundBy;
            d.foundHour = foundHour;
            return d;
        }
    }

    private static final class Seen {
        int finder;
        int corner;
        int hour;
        int marks;
        boolean photo;
        int dog;
        Boolean settledTrue;
        Boolean settledFraud;

        Seen copy() {
            Seen s = new Seen();
            s.finder = finder;
            s.corner = corner;
            s.hour = hour;
            s.marks = marks;
            s.photo = photo;
            s.dog = dog;
            s.settledTrue = settledTrue;
            s.settledFraud = settledFraud;
            return s;
        }
    }

    private static final class State {
        List<Dog> dogs = new ArrayList<>();
        List<Seen> seen = new ArrayList<>();
        Set<String> closed = new HashSet<>();
        int[] purses = new int[8];
        int[] settings = {5, 2};
        int hour;
        int paid;
        int stayed;

        State copy() {
            State s = new State();
            dogs.forEach(d -> s.dogs.add(d.copy()));
            seen.forEach(x -> s.seen.add(x.copy()));
            s.closed.addAll(closed);
            s.purses = purses.clone();
            s.settings = settings.clone();
            s.hour = hour;
            s.paid = paid;
            s.stayed = stayed;
            return s;
        }
    }

    private State now = new State();
    private final Deque<State> remembered = new ArrayDeque<>();
    private final State[] slots = new State[2];
    private String text = "";

    // ---- text

    int append(int c) {
        need(c >= 0 && c <= 255);
        allow(text.length() < 120);
        text += (char) c;
        return text.length();
    }

    int clearText() {
        int before = text.length();
        text = "";
        return before;
    }

    int errorPosition() {
        for (int i = 1; i <= text.length(); i++) {
            Matcher m = BOARD.matcher(text.substring(0, i));
            if (!m.matches() && !m.hitEnd()) {
                return i - 1;
            }
        }
        return BOARD.matcher(text).matches() ? -1 : text.length();
    }

    int load() {
        allow(BOARD.matcher(text).matches());
        now = new State();
        remembered.clear();
        Arrays.fill(slots, null);
        int leftOut = 0;
        Matcher m = COMMAND.matcher(text.substring(1));
        while (m.find()) {
            leftOut += succeeds(m.group()) ? 0 : 1;
        }
        remembered.clear();
        return leftOut;
    }

    private boolean succeeds(String c) {
        try {
            boolean plus = c.endsWith("+");
            switch (c.charAt(0)) {
                case 'd': lose(part(c, 1, 4), part(c, 4, 5), part(c, 5, 7), part(c, 7, 10)); break;
                case 's': sight(part(c, 1, 2), part(c, 2, 4), part(c, 4, 7), 0, plus); break;
                case 'f': find(part(c, 1, 2), part(c, 2, 3), part(c, 3, 5)); break;
                case 'x': close(part(c, 1, 3), part(c, 3, 5), plus); break;
                default: hours(part(c, 1, 3)); break;
            }
            return true;
        } catch (RuntimeException e) {
            return false;
        }
    }

    private static int part(String c, int from, int to) {
        return Integer.parseInt(c.substring(from, to));
    }

    // ---- what there is

    int about(int what) {
        need(what >= 0 && what <= 10);
        int rewards = now.dogs.stream().filter(d -> d.missing).mapToInt(d -> d.reward).sum();
        int given = Arrays.stream(now.purses).sum();
        int[] all = {now.dogs.size(), missing(), now.seen.size(), now.hour, now.paid, given, now.stayed, rewards,
            frauds(), (int) now.seen.stream().filter(s -> s.dog < 0).count(), now.closed.size()};
        return all[what];
    }

    private int missing() {
        return (int) now.dogs.stream().filter(d -> d.missing).count();
    }

    private int frauds() {
        return (int) now.seen.stream().filter(this::isFraud).count();
    }

    int dogOf(int d, int what) {
        there(d >= 0 && d < now.dogs.size());
        need(what >= 0 && what <= 10);
        Dog dog = now.dogs.get(d);
        int meaning = (int) now.seen.stream().filter(s -> s.dog == d).count();
        int[] all = {dog.marks, dog.pace, dog.corner, dog.hour, dog.reward, dog.missing ? 1 : 0, meaning,
            honest(d).size(), dog.foundCorner, dog.foundBy, dog.foundHour};
        return all[what];
    }

    int sightingOf(int s, int what) {
        there(s >= 0 && s < now.seen.size());
        need(what >= 0 && what <= 8);
        Seen x = now.seen.get(s);
        int unlike = x.dog < 0 ? -1 : unlike(now.dogs.get(x.dog).marks, x.marks);
        int isTrue = x.dog < 0 ? -1 : isTrue(x) ? 1 : 0;
        int[] all = {x.finder, x.corner, x.hour, x.marks, x.photo ? 1 : 0, x.dog, unlike, isTrue, isFraud(x) ? 1 : 0};
        return all[what];
    }

    int purse(int f) {
        there(f >= 0 && f < 8);
        return now.purses[f];
    }

    int apart(int a, int b, int way) {
        corner(a);
        corner(b);
        need(way == 0 || way == 1);
        int far = way(a, b);
        return far > 99 ? -1 : far;
    }

    /** The way by sets of corners that can be reached in ever more streets; more than 99 without one. */
    private int way(int a, int b) {
        Set<Integer> reached = new TreeSet<>(List.of(a));
        for (int streets = 0; streets <= 12; streets++) {
            if (reached.contains(b)) {
                return streets;
            }
            Set<Integer> wider = new TreeSet<>(reached);
            for (int c : reached) {
                for (int e = 0; e < 12; e++) {
                    if (isStreet(c, e) && !now.closed.contains(street(c, e))) {
                        wider.add(e);
                    }
                }
            }
            reached = wider;
        }
        return 1_000_000;
    }

    private static boolean isStreet(int a, int b) {
        return Math.abs(a / 4 - b / 4) + Math.abs(a % 4 - b % 4) == 1;
    }

    private static String street(int a, int b) {
        return Math.min(a, b) + "-" + Math.max(a, b);
    }

    // ---- sightings

    private static int unlike(int one, int other) {
        int count = 0;
        for (int mark = 0; mark < 8; mark++) {
            boolean inOne = one / (1 << mark) % 2 == 1;
            boolean inOther = other / (1 << mark) % 2 == 1;
            count += inOne != inOther ? 1 : 0;
        }
        return count;
    }

    private int meantAt(int marks, int hour) {
        int best = -1;
        long bestRank = Long.MAX_VALUE;
        for (int d = 0; d < now.dogs.size(); d++) {
            Dog dog = now.dogs.get(d);
            int unlike = unlike(dog.marks, marks);
            long rank = unlike * 100_000_000L - dog.reward * 10L + d;
            if (dog.missing && dog.hour <= hour && rank < bestRank) {
                bestRank = rank;
                best = d;
            }
        }
        return best >= 0 && unlike(now.dogs.get(best).marks, marks) > now.settings[1] ? -1 : best;
    }

    private boolean isTrue(Seen s) {
        if (s.settledTrue != null) {
            return s.settledTrue;
        }
        Dog dog = now.dogs.get(s.dog);
        return way(dog.corner, s.corner) <= dog.pace * (s.hour - dog.hour);
    }

    private boolean fits(Seen s, Seen t) {
        return way(s.corner, t.corner) <= now.dogs.get(s.dog).pace * Math.abs(s.hour - t.hour);
    }

    private boolean isFraud(Seen s) {
        if (s.dog < 0) {
            return false;
        }
        if (s.settledFraud != null) {
            return s.settledFraud;
        }
        List<Seen> others = new ArrayList<>();
        for (Seen t : now.seen) {
            if (t != s && t.dog == s.dog && isTrue(t)) {
                others.add(t);
            }
        }
        return !isTrue(s) || !s.photo && !others.isEmpty() && others.stream().noneMatch(t -> fits(s, t));
    }

    private List<Seen> honest(int d) {
        List<Seen> honest = new ArrayList<>();
        for (Seen s : now.seen) {
            if (s.dog == d && !isFraud(s)) {
                honest.add(s);
            }
        }
        return honest;
    }

    // ---- actions

    int lose(int marks, int pace, int corner, int reward) {
        corner(corner);
        need(marks >= 1 && marks <= 255 && pace >= 1 && pace <= 3 && reward >= 1 && reward <= 500);
        allow(now.dogs.size() < 6);
        remember();
        Dog d = new Dog();
        d.marks = marks;
        d.pace = pace;
        d.corner = corner;
        d.hour = now.hour;
        d.reward = reward;
        now.dogs.add(d);
        now.paid += reward;
        return now.dogs.size() - 1;
    }

    int sight(int finder, int corner, int marks, int ago, boolean photo) {
        finder(finder);
        corner(corner);
        need(marks >= 0 && marks <= 255 && ago >= 0 && ago <= 99 && now.hour - ago >= 0);
        allow(now.seen.size() < 20);
        remember();
        Seen s = new Seen();
        s.finder = finder;
        s.corner = corner;
        s.hour = now.hour - ago;
        s.marks = marks;
        s.photo = photo;
        s.dog = meantAt(marks, s.hour);
        now.seen.add(s);
        return s.dog;
    }

    int find(int d, int finder, int corner) {
        there(d >= 0 && d < now.dogs.size());
        finder(finder);
        corner(corner);
        Dog dog = now.dogs.get(d);
        allow(dog.missing);
        remember();
        int[] shares = shares(d, finder, corner);
        for (int f = 0; f < 8; f++) {
            now.purses[f] += shares[f];
        }
        now.stayed += dog.reward - Arrays.stream(shares).sum();
        List<Boolean> truths = new ArrayList<>();
        List<Boolean> frauds = new ArrayList<>();
        for (Seen s : now.seen) {
            truths.add(s.dog == d && isTrue(s));
            frauds.add(s.dog == d && isFraud(s));
        }
        for (int i = 0; i < now.seen.size(); i++) {
            if (now.seen.get(i).dog == d) {
                now.seen.get(i).settledTrue = truths.get(i);
                now.seen.get(i).settledFraud = frauds.get(i);
            }
        }
        dog.missing = false;
        dog.foundCorner = corner;
        dog.foundBy = finder;
        dog.foundHour = now.hour;
        return shares[finder];
    }

    private int[] shares(int d, int finder, int corner) {
        int[] help = new int[8];
        help[finder] = 3;
        for (Seen s : honest(d)) {
            help[s.finder] += 1 + (s.photo ? 1 : 0) + (way(s.corner, corner) <= 1 ? 1 : 0);
        }
        int all = Arrays.stream(help).sum();
        int[] shares = new int[8];
        for (int f = 0; f < 8; f++) {
            shares[f] = now.dogs.get(d).reward * help[f] / all;
        }
        return shares;
    }

    int close(int a, int b, boolean on) {
        corner(a);
        corner(b);
        need(isStreet(a, b));
        remember();
        if (on) {
            now.closed.add(street(a, b));
        } else {
            now.closed.remove(street(a, b));
        }
        return now.closed.size();
    }

    int hours(int n) {
        need(n >= 1 && n <= 99);
        remember();
        int grown = 0;
        for (int i = 0; i < n; i++) {
            now.hour++;
            for (Dog d : now.dogs) {
                if (d.missing && (now.hour - d.hour) % 24 == 0) {
                    d.reward += now.settings[0];
                    grown += now.settings[0];
                }
            }
        }
        now.paid += grown;
        return grown;
    }

    int set(int what, int v) {
        need(what == 0 || what == 1);
        need(v >= 0 && v <= (what == 0 ? 50 : 8));
        remember();
        int before = now.settings[what];
        now.settings[what] = v;
        return before;
    }

    int undo() {
        allow(!remembered.isEmpty());
        now = remembered.removeLast();
        return remembered.size();
    }

    private void remember() {
        remembered.addLast(now.copy());
        if (remembered.size() > 14) {
            remembered.removeFirst();
        }
    }

    // ---- what would be

    int canBe(int d) {
        there(d >= 0 && d < now.dogs.size());
        Dog dog = now.dogs.get(d);
        allow(dog.missing);
        int corners = 0;
        for (int c = 0; c < 12; c++) {
            int at = c;
            boolean can = way(dog.corner, c) <= dog.pace * (now.hour - dog.hour)
                    && honest(d).stream().allMatch(s -> way(s.corner, at) <= dog.pace * (now.hour - s.hour));
            corners += can ? 1 << c : 0;
        }
        return corners;
    }

    int watch() {
        int best = -1;
        long bestRank = -1;
        if (missing() > 0) {
            for (int c = 0; c < 12; c++) {
                long rank = 0;
                for (int d = 0; d < now.dogs.size(); d++) {
                    if (now.dogs.get(d).missing && canBe(d) / (1 << c) % 2 == 1) {
                        rank += 1_000_000_000_000L + now.dogs.get(d).reward;
                    }
                }
                if (rank > bestRank) {
                    bestRank = rank;
                    best = c;
                }
            }
        }
        return best;
    }

    int meant(int marks) {
        need(marks >= 0 && marks <= 255);
        return meantAt(marks, now.hour);
    }

    int ifFound(int d, int finder, int corner, int other) {
        there(d >= 0 && d < now.dogs.size());
        finder(finder);
        finder(other);
        corner(corner);
        allow(now.dogs.get(d).missing);
        return shares(d, finder, corner)[other];
    }

    // ---- scripts, simulations

    int runScript(int n, long script) {
        need(n >= 1 && n <= 3);
        need(script >= 0 && Long.toString(script).length() <= 6 * n);
        String digits = "0".repeat(6 * n - Long.toString(script).length()) + script;
        State before = now.copy();
        Deque<State> rememberedBefore = new ArrayDeque<>(remembered);
        int failed = -1;
        for (int i = 0; i < n && failed < 0; i++) {
            failed = runs(digits.substring(6 * i, 6 * i + 6)) ? -1 : i;
        }
        now = before;
        remembered.clear();
        remembered.addAll(rememberedBefore);
        return failed;
    }

    private boolean runs(String g) {
        try {
            if (g.matches("1000..")) {
                hours(part(g, 4, 6));
                return true;
            }
            if (g.matches("2...[0-7]0")) {
                return sight(part(g, 1, 2), part(g, 2, 4), 1 << part(g, 4, 5), 0, false) >= 0;
            }
            if (g.matches("3....0")) {
                find(part(g, 1, 2), part(g, 2, 3), part(g, 3, 5));
                return true;
            }
            if (g.matches("4....[01]")) {
                close(part(g, 1, 3), part(g, 3, 5), g.endsWith("1"));
                return true;
            }
            if (g.matches("5.00..")) {
                set(part(g, 1, 2), part(g, 4, 6));
                return true;
            }
            if (g.matches("6...00")) {
                return part(g, 2, 4) < 12 && canBe(part(g, 1, 2)) / (1 << part(g, 2, 4)) % 2 == 1;
            }
            if (g.matches("7000..")) {
                return frauds() <= part(g, 4, 6);
            }
            if (g.matches("8.0...")) {
                return dogOf(part(g, 1, 2), 4) >= part(g, 3, 6);
            }
            return g.matches("9.0...") && purse(part(g, 1, 2)) >= part(g, 3, 6);
        } catch (RuntimeException e) {
            return false;
        }
    }

    int simulate(long seed, int m) {
        need(m >= 1 && m <= 60);
        State before = now.copy();
        Deque<State> rememberedBefore = new ArrayDeque<>(remembered);
        int givenBefore = about(5);
        long x = seed;
        for (int i = 0; i < m; i++) {
            x = x * 6364136223846793005L + 1442695040888963407L;
            turn((int) (x >>> 33));
        }
        int answer = 1000 * ((about(5) - givenBefore) % 1000) + 10 * frauds() + missing();
        now = before;
        remembered.clear();
        remembered.addAll(rememberedBefore);
        return answer;
    }

    private void turn(int r) {
        int q = r / 8;
        try {
            if (r % 8 == 0) {
                lose(1 + q % 255, 1 + q / 256 % 3, q / 1024 % 12, 1 + q / 16384 % 500);
            } else if (r % 8 <= 3) {
                sight(q % 8, q / 8 % 12, q / 128 % 256, q / 32768 % 6, q / 262144 % 2 == 1);
            } else if (r % 8 == 4) {
                find(q % 6, q / 8 % 8, q / 64 % 12);
            } else if (r % 8 == 5) {
                int a = q % 12;
                int b = q / 16 % 2 == 0 ? a + 1 : a + 4;
                close(a, b, q / 64 % 2 == 1);
            } else {
                hours(1 + q % 30);
            }
        } catch (RuntimeException e) {
            // What would throw an exception is left out.
        }
    }

    // ---- save slots

    int save(int slot) {
        there(slot == 0 || slot == 1);
        slots[slot] = now.copy();
        return now.hour;
    }

    int restore(int slot) {
        there(slot == 0 || slot == 1);
        allow(slots[slot] != null);
        now = slots[slot].copy();
        remembered.clear();
        return now.hour;
    }

    private static void corner(int c) {
        there(c >= 0 && c < 12);
    }

    private static void finder(int f) {
        there(f >= 0 && f < 8);
    }

    private static void there(boolean exists) {
        if (!exists) {
            throw new IndexOutOfBoundsException();
        }
    }

    private static void need(boolean inRange) {
        if (!inRange) {
            throw new IllegalArgumentException();
        }
    }

    private static void allow(boolean allowed) {
        if (!allowed) {
            throw new IllegalStateException();
        }
    }
}
