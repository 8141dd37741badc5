import java.util.Random;

/** Long runs of calls, with every answer compared with the model's. The seeds are fixed. */
public final class ModelTest {
    private static final int RUNS = 450;
    private static final int CALLS = 512;
    private static final int[] EDGES = {Integer.MIN_VALUE, -2, -1, 12, 21, 100, 256, 501, Integer.MAX_VALUE};

    private final Random random;
    private final DogBoard board = new DogBoard();
    private final Model model = new Model();
    private final int run;
    private int calls;
    private int[] dogMarks = {15, 240, 51, 204, 85, 255};

    private ModelTest(int run) {
        this.run = run;
        this.random = new Random(run);
    }

    public static void main(String[] args) {
        for (int run = 0; run < RUNS; run++) {
            new ModelTest(run).go();
        }
        Check.end("ModelTest");
    }

    private void go() {
        while (calls < CALLS) {
            if (random.nextInt(3) == 0) {
                ask();
            } else {
                act();
            }
        }
    }

    private int in(int least, int most) {
        return random.nextInt(60) == 0 ? EDGES[random.nextInt(EDGES.length)]
                : least + random.nextInt(most - least + 1);
    }

    private int marks() {
        int near = dogMarks[random.nextInt(dogMarks.length)] ^ (1 << random.nextInt(8));
        return random.nextInt(3) == 0 ? in(0, 255) : near & (random.nextInt(4) == 0 ? ~(1 << random.nextInt(8)) : 255);
    }

    /** Nothing is promised about a board behind its last call, so nothing is asked of it then. */
    private void due(String what, Check.Call got, Check.Call want) {
        if (calls >= CALLS) {
            return;
        }
        calls++;
        Check.due("run " + run + ": " + what, Check.answerOf(got), Check.answerOf(want));
    }

    private void act() {
        int kind = random.nextInt(120);
        if (kind < 8) {
            int marks = random.nextBoolean() ? dogMarks[random.nextInt(dogMarks.length)] : in(1, 255);
            int pace = in(1, 3);
            int corner = in(0, 11);
            int reward = in(1, 500);
            due("lose(" + marks + ", " + pace + ", " + corner + ", " + reward + ")",
                    () -> board.lose(marks, pace, corner, reward), () -> model.lose(marks, pace, corner, reward));
        } else if (kind < 40) {
            sight();
        } else if (kind < 44) {
            int d = in(0, 5);
            int finder = in(0, 7);
            int corner = in(0, 11);
            due("find(" + d + ", " + finder + ", " + corner + ")",
                    () -> board.find(d, finder, corner), () -> model.find(d, finder, corner));
        } else if (kind < 60) {
            close();
        } else if (kind < 76) {
            int n = in(1, random.nextInt(4) == 0 ? 99 : 3);
            due("hours(" + n + ")", () -> board.hours(n), () -> model.hours(n));
        } else if (kind < 80) {
            int what = in(0, 2);
            int v = in(0, what == 0 ? 51 : 9);
            due("set(" + what + ", " + v + ")", () -> board.set(what, v), () -> model.set(what, v));
        } else if (kind < 96) {
            due("undo()", board::undo, model::undo);
        } else if (kind < 100) {
            int slot = in(0, 1);
            due("save(" + slot + ")", () -> board.save(slot), () -> model.save(slot));
        } else if (kind < 103) {
            int slot = in(0, 1);
            due("restore(" + slot + ")", () -> board.restore(slot), () -> model.restore(slot));
        } else if (kind < 119) {
            write();
        } else {
            due("load()", board::load, model::load);
        }
    }

    private void sight() {
        int finder = in(0, 7);
        int corner = in(0, 11);
        int marks = marks();
        int ago = random.nextInt(20) == 0 ? in(0, 99) : in(0, 4);
        boolean photo = random.nextInt(3) == 0;
        due("sight(" + finder + ", " + corner + ", " + marks + ", " + ago + ", " + photo + ")",
                () -> board.sight(finder, corner, marks, ago, photo),
                () -> model.sight(finder, corner, marks, ago, photo));
    }

    private void close() {
        int a = in(0, 11);
        int b = random.nextInt(6) == 0 ? in(0, 11) : a + new int[] {1, 4, -1, -4}[random.nextInt(4)];
        boolean on = random.nextInt(3) != 0;
        due("close(" + a + ", " + b + ", " + on + ")", () -> board.close(a, b, on), () -> model.close(a, b, on));
    }

    private void write() {
        if (random.nextInt(12) == 0) {
            due("clearText()", board::clearText, model::clearText);
            due("append('M')", () -> board.append('M'), () -> model.append('M'));
        }
        String command = command();
        for (int i = 0; i < command.length(); i++) {
            int c = random.nextInt(150) == 0 ? in(0, 255) : command.charAt(i);
            due("append(" + c + ")", () -> board.append(c), () -> model.append(c));
        }
        due("errorPosition()", board::errorPosition, model::errorPosition);
    }

    private String command() {
        int far = random.nextInt(15) == 0 ? 1 : 0;
        switch (random.nextInt(5)) {
            case 0: return String.format("d%03d%d%02d%03d", random.nextInt(255 + far) + 1, 1 + random.nextInt(3 + far),
                    random.nextInt(12 + far), 1 + random.nextInt(500 + far));
            case 1: return String.format("s%d%02d%03d%s", random.nextInt(8 + far), random.nextInt(12 + far),
                    random.nextInt(256 + far), random.nextBoolean() ? "+" : "-");
            case 2: return String.format("f%d%d%02d", random.nextInt(6 + far), random.nextInt(8 + far),
                    random.nextInt(12 + far));
            case 3: return String.format("x%02d%02d%s", random.nextInt(12 + far), random.nextInt(12 + far),
                    random.nextBoolean() ? "+" : "-");
            default: return String.format("h%02d", 1 - far + random.nextInt(99));
        }
    }

    private void ask() {
        int kind = random.nextInt(11);
        if (kind == 0) {
            int what = in(0, 10);
            due("about(" + what + ")", () -> board.about(what), () -> model.about(what));
        } else if (kind == 1) {
            int d = in(0, 5);
            int what = in(0, 10);
            due("dogOf(" + d + ", " + what + ")", () -> board.dogOf(d, what), () -> model.dogOf(d, what));
        } else if (kind == 2) {
            int s = in(0, 19);
            int what = in(0, 8);
            due("sightingOf(" + s + ", " + what + ")", () -> board.sightingOf(s, what), () -> model.sightingOf(s, what));
        } else if (kind == 3) {
            int f = in(0, 7);
            due("purse(" + f + ")", () -> board.purse(f), () -> model.purse(f));
        } else if (kind == 4) {
            int a = in(0, 11);
            int b = in(0, 11);
            int way = in(0, 1);
            due("apart(" + a + ", " + b + ", " + way + ")", () -> board.apart(a, b, way), () -> model.apart(a, b, way));
        } else if (kind == 5) {
            int d = in(0, 5);
            due("canBe(" + d + ")", () -> board.canBe(d), () -> model.canBe(d));
        } else if (kind == 6) {
            due("watch()", board::watch, model::watch);
        } else if (kind == 7) {
            int marks = marks();
            due("meant(" + marks + ")", () -> board.meant(marks), () -> model.meant(marks));
        } else if (kind == 8) {
            int d = in(0, 5);
            int finder = in(0, 7);
            int corner = in(0, 11);
            int other = random.nextBoolean() ? finder : in(0, 7);
            due("ifFound(" + d + ", " + finder + ", " + corner + ", " + other + ")",
                    () -> board.ifFound(d, finder, corner, other), () -> model.ifFound(d, finder, corner, other));
        } else if (kind == 9) {
            script();
        } else {
            simulate();
        }
    }

    private void script() {
        int n = in(1, 3);
        long script = 0;
        for (int i = 0; i < Math.min(Math.max(n, 1), 3); i++) {
            script = script * 1_000_000 + group();
        }
        long all = random.nextInt(40) == 0 ? -script : script;
        due("runScript(" + n + ", " + all + ")", () -> board.runScript(n, all), () -> model.runScript(n, all));
    }

    private int group() {
        int corner = random.nextInt(random.nextInt(10) == 0 ? 100 : 12);
        int finder = random.nextInt(random.nextInt(10) == 0 ? 10 : 8);
        int dog = random.nextInt(random.nextInt(10) == 0 ? 10 : 3);
        int odd = random.nextInt(15) == 0 ? random.nextInt(10) : 0;
        switch (random.nextInt(11)) {
            case 1: return 100_000 + odd * 1000 + random.nextInt(100);
            case 2: return 200_000 + finder * 10_000 + corner * 100 + random.nextInt(9) * 10 + odd;
            case 3: return 300_000 + dog * 10_000 + finder * 1000 + corner * 10 + odd;
            case 4: return 400_000 + corner * 1000 + (corner + (random.nextBoolean() ? 1 : 4)) % 100 * 10
                    + (odd == 0 ? random.nextInt(2) : odd);
            case 5: return 500_000 + random.nextInt(3) * 10_000 + odd * 100 + random.nextInt(52);
            case 6: return 600_000 + dog * 10_000 + corner * 100 + odd;
            case 7: return 700_000 + odd * 10_000 + random.nextInt(8);
            case 8: return 800_000 + dog * 10_000 + odd * 1000 + random.nextInt(600);
            case 9: return 900_000 + finder * 10_000 + odd * 1000 + random.nextInt(200);
            default: return random.nextInt(1_000_000);
        }
    }

    private void simulate() {
        long seed = random.nextInt(10) == 0 ? random.nextInt(5) - 2 : random.nextLong();
        int m = in(1, 60);
        due("simulate(" + seed + ", " + m + ")", () -> board.simulate(seed, m), () -> model.simulate(seed, m));
    }
}
