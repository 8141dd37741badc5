/** Promises 22 and 23: runScript, simulate. */
public final class ScriptTest {
    public static void main(String[] args) {
        runsEachCommand();
        failsOtherGroups();
        runsInOrder();
        refusesScripts();
        simulatesNothing();
        simulatesEachTurn();
        simulatesMany();
        refusesSimulations();
        Check.end("ScriptTest");
    }

    /** Dogs 0 (missing since the hour 0, found now by finder 2) and 1 (missing), and two frauds. */
    private static DogBoard board() {
        DogBoard b = new DogBoard();
        b.lose(3, 1, 5, 100);
        b.lose(12, 1, 0, 250);
        b.hours(2);
        b.sight(1, 11, 3, 0, true);
        b.sight(2, 11, 12, 0, true);
        b.find(0, 2, 5);
        return b;
    }

    private static void group(String group, boolean succeeds) {
        DogBoard b = board();
        String before = Check.stateOf(b);
        Check.due("runScript(1, " + group + ")", () -> b.runScript(1, Long.parseLong(group)), succeeds ? -1 : 0);
        Check.same("runScript(1, " + group + ") works on a copy", Check.stateOf(b), before);
        Check.due("runScript(2, 700002 " + group + ")", () -> b.runScript(2, Long.parseLong("700002" + group)),
                succeeds ? -1 : 1);
    }

    private static void runsEachCommand() {
        group("100001", true);
        group("100099", true);
        group("100000", false);
        group("201120", true);
        group("271130", true);
        group("200000", false);
        group("200070", false);
        group("281120", false);
        group("201220", false);
        group("310000", true);
        group("317110", true);
        group("300000", false);
        group("320000", false);
        group("318000", false);
        group("310120", false);
        group("400011", true);
        group("401000", true);
        group("411071", true);
        group("400021", false);
        group("411120", false);
        group("412110", false);
        group("500000", true);
        group("500050", true);
        group("500051", false);
        group("510008", true);
        group("510009", false);
        group("520000", false);
        group("610000", true);
        group("610200", true);
        group("610300", false);
        group("611200", false);
        group("600500", false);
        group("620000", false);
        group("700002", true);
        group("700001", false);
        group("700099", true);
        group("810250", true);
        group("810251", false);
        group("800100", true);
        group("800101", false);
        group("820000", false);
        group("920100", true);
        group("920101", false);
        group("970000", true);
        group("980000", false);
    }

    private static void failsOtherGroups() {
        group("000000", false);
        group("000001", false);
        group("110001", false);
        group("101001", false);
        group("100101", false);
        group("201121", false);
        group("201180", false);
        group("201190", false);
        group("310001", false);
        group("400012", false);
        group("400019", false);
        group("501000", false);
        group("500100", false);
        group("610010", false);
        group("610001", false);
        group("710002", false);
        group("701002", false);
        group("700102", false);
        group("811000", false);
        group("921000", false);
    }

    private static void runsInOrder() {
        DogBoard b = board();
        Check.due("the first group is the highest", () -> b.runScript(3, 100001_000000_100001L), 1);
        Check.due("zeros before it", () -> b.runScript(3, 100001_100001L), 0);
        Check.due("all three succeed", () -> b.runScript(3, 100022_810255_310000L), -1);
        Check.due("without the hours it fails", () -> b.runScript(2, 810255_310000L), 0);
        Check.due("a dog is found once", () -> b.runScript(3, 310000_310000_310000L), 1);
        Check.due("the find is paid", () -> b.runScript(3, 312000_920350_920351L), 2);
        Check.due("a closed street is felt", () -> b.runScript(3, 400011_400041_610100L), 2);
        Check.due("a setting is felt", () -> b.runScript(3, 510000_201120_100001L), 1);
        Check.due("a sighting is felt", () -> b.runScript(3, 200020_610000_610100L), 2);
        b.sight(3, 1, 12, 0, true);
        Check.due("a sighting of a script has no photo", () -> b.runScript(2, 200420_700002L), 1);
        DogBoard first = new DogBoard();
        first.lose(1, 1, 0, 1);
        Check.due("a sighting that means the dog 0", () -> first.runScript(1, 200000), -1);
        for (int s = 3; s < 20; s++) {
            b.sight(0, 0, 255, 0, true);
        }
        Check.due("no room for a sighting", () -> b.runScript(1, 201120), 0);
    }

    private static void refusesScripts() {
        DogBoard b = board();
        Check.refused(b, "runScript(0, 0)", () -> b.runScript(0, 0), Check.ARGUMENT);
        Check.refused(b, "runScript(4, 0)", () -> b.runScript(4, 0), Check.ARGUMENT);
        Check.refused(b, "runScript(1, -1)", () -> b.runScript(1, -1), Check.ARGUMENT);
        Check.refused(b, "runScript(1, 7 digits)", () -> b.runScript(1, 1_000_000), Check.ARGUMENT);
        Check.refused(b, "runScript(2, 13 digits)", () -> b.runScript(2, 1_000_000_000_000L), Check.ARGUMENT);
        Check.refused(b, "runScript(3, 19 digits)", () -> b.runScript(3, 1_000_000_000_000_000_000L), Check.ARGUMENT);
        Check.refused(b, "runScript(3, max)", () -> b.runScript(3, Long.MAX_VALUE), Check.ARGUMENT);
        Check.refused(b, "runScript(3, min)", () -> b.runScript(3, Long.MIN_VALUE), Check.ARGUMENT);
        Check.due("runScript(1, 999999)", () -> b.runScript(1, 999_999), 0);
        Check.due("runScript(3, 0)", () -> b.runScript(3, 0), 0);
        Check.due("runScript(3, 18 nines)", () -> b.runScript(3, 999_999_999_999_999_999L), 0);
    }

    /** The seed for which the first turn's r is this one: the turn's step taken back. */
    private static long seedFor(long r) {
        long inverse = 1;
        for (int i = 0; i < 6; i++) {
            inverse *= 2 - 6364136223846793005L * inverse;
        }
        return ((r << 33) - 1442695040888963407L) * inverse;
    }

    private static void turn(String what, DogBoard b, int kind, int q, int want) {
        Check.due("simulate: " + what, () -> b.simulate(seedFor(8L * q + kind), 1), want);
    }

    private static void simulatesNothing() {
        DogBoard b = board();
        String before = Check.stateOf(b);
        // A turn that finds dog 5 is left out: the frauds and the missing dogs are as they were.
        turn("a find of no dog", b, 4, 5, 21);
        Check.same("simulate works on a copy", Check.stateOf(b), before);
    }

    /** What a q must be for a turn. */
    private interface Wish {
        boolean isMetBy(int q);
    }

    private static int firstQ(Wish wish) {
        for (int q = 0; q < 1 << 28; q++) {
            if (wish.isMetBy(q)) {
                return q;
            }
        }
        throw new IllegalStateException("no such q");
    }

    private static int sightingOf(int finder, int corner, int marks, int ago, int photo) {
        return firstQ(q -> q % 8 == finder && q / 8 % 12 == corner && q / 128 % 256 == marks
                && q / 32768 % 6 == ago && q / 262144 % 2 == photo);
    }

    private static int findOf(int dog, int finder, int corner) {
        return firstQ(q -> q % 6 == dog && q / 8 % 8 == finder && q / 64 % 12 == corner);
    }

    private static void simulatesEachTurn() {
        DogBoard b = board();
        turn("lose", b, 0, 0, 22);
        turn("lose with the greatest q", b, 0, (1 << 28) - 1, 22);
        turn("find dog 1 by finder 0", b, 4, findOf(1, 0, 0), 250_020);
        turn("find dog 1 by finder 7", b, 4, findOf(1, 7, 11), 250_020);
        turn("find dog 0, which is found", b, 4, findOf(0, 0, 0), 21);
        turn("hours", b, 6, 29, 21);
        turn("hours", b, 7, 0, 21);
        for (int kind = 1; kind <= 3; kind++) {
            turn("sight far away, kind " + kind, b, kind, sightingOf(0, 11, 12, 0, 1), 31);
            turn("sight where it was lost", b, kind, sightingOf(0, 0, 12, 0, 1), 21);
            turn("sight of a found dog's marks", b, kind, sightingOf(0, 11, 3, 0, 1), 21);
            turn("sight five hours ago: there was no hour", b, kind, sightingOf(0, 11, 12, 5, 1), 21);
        }
        b.sight(1, 1, 12, 0, true);
        turn("sight without a photo, which fits none", b, 1, sightingOf(0, 4, 12, 0, 0), 31);
        turn("sight with a photo, which fits none", b, 1, sightingOf(0, 4, 12, 0, 1), 21);
        b.sight(3, 1, 12, 0, false);
        // Help 3 for finder 2, and 3 and 2 for the sightings at 1, of 8; found far from them 3, 2 and 1, of 6.
        turn("find where it was seen", b, 4, findOf(1, 2, 1), 1000 * (93 + 93 + 62) + 20);
        turn("find far from where it was seen", b, 4, findOf(1, 2, 11), 1000 * (125 + 83 + 41) + 20);
        closesInATurn();
    }

    /** A sighting at the corner 1 an hour after a loss at 0 is a fraud once the street is closed; so at 4. */
    private static void closesInATurn() {
        DogBoard right = seenAt(1);
        turn("close 0 and 1", right, 5, streetOf(0, false, true), 11);
        turn("open 0 and 1", right, 5, streetOf(0, false, false), 1);
        turn("close 0 and 4", right, 5, streetOf(0, true, true), 1);
        DogBoard below = seenAt(4);
        turn("close 0 and 4, seen at 4", below, 5, streetOf(0, true, true), 11);
        turn("close 0 and 1, seen at 4", below, 5, streetOf(0, false, true), 1);
        turn("close 3 and 4: no street", below, 5, streetOf(3, false, true), 1);
        turn("close 8 and 12: no corner", below, 5, streetOf(8, true, true), 1);
        DogBoard shut = seenAt(1);
        shut.close(0, 1, true);
        turn("open the closed one", shut, 5, streetOf(0, false, false), 1);
    }

    private static DogBoard seenAt(int corner) {
        DogBoard b = new DogBoard();
        b.lose(3, 1, 0, 100);
        b.hours(1);
        b.sight(0, corner, 3, 0, true);
        return b;
    }

    private static int streetOf(int a, boolean below, boolean on) {
        return firstQ(q -> q % 12 == a && q / 16 % 2 == (below ? 1 : 0) && q / 64 % 2 == (on ? 1 : 0));
    }

    private static void simulatesMany() {
        DogBoard b = new DogBoard();
        Model m = new Model();
        for (long seed = -20; seed < 20; seed++) {
            long s = seed * 1_000_003;
            Check.due("simulate(" + s + ", 60)", () -> b.simulate(s, 60), m.simulate(s, 60));
            Check.due("simulate(" + s + ", 60) again", () -> b.simulate(s, 60), m.simulate(s, 60));
        }
        DogBoard rich = new DogBoard();
        rich.set(0, 50);
        rich.lose(1, 1, 0, 500);
        for (int i = 0; i < 10; i++) {
            rich.hours(48);
        }
        // 500 + 20 * 50 coins: 1500, modulo 1000.
        turn("coins modulo 1000", rich, 4, 0, 500_000);
        rich.find(0, 0, 0);
        Check.due("coins given ahead of the turns don't count", () -> rich.simulate(seedFor(4), 1), 0);
    }

    private static void refusesSimulations() {
        DogBoard b = board();
        Check.refused(b, "simulate(0, 0)", () -> b.simulate(0, 0), Check.ARGUMENT);
        Check.refused(b, "simulate(0, 61)", () -> b.simulate(0, 61), Check.ARGUMENT);
        Check.refused(b, "simulate(0, -1)", () -> b.simulate(0, -1), Check.ARGUMENT);
        Check.isTrue("simulate(max, 60)", b.simulate(Long.MAX_VALUE, 60) >= 0);
        Check.isTrue("simulate(min, 1)", b.simulate(Long.MIN_VALUE, 1) >= 0);
    }
}
