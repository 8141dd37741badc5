/** Edges of the promises 22, runScript, and 23, simulate. */
final class ScriptEdges {
    private ScriptEdges() {
    }

    static void run() {
        oneToThreeCommands();
        theHighestGroupIsFirst();
        onACopy();
        hoursInAScript();
        sightInAScript();
        sightsWithoutAPhoto();
        findInAScript();
        closeInAScript();
        setInAScript();
        canBeInAScript();
        fraudsInAScript();
        rewardInAScript();
        purseInAScript();
        methodsThatThrow();
        anyOtherGroup();
        theFirstThatFails();
        runScriptNeedsItsRanges();
        oneToSixtyTurns();
        simulatesAsTheMethodsDo();
        givenModuloAThousand();
        fraudsAndMissingAtTheEnd();
        whatThrowsIsLeftOut();
        anySeed();
        simulatesOnACopy();
        simulateNeedsItsRange();
    }

    /** The dog 0 is found by finder 2, who has its 100 coins; 1 is missing since the hour 0; two frauds; the hour is 2. */
    private static DogBoard board() {
        DogBoard b = new DogBoard();
        b.lose(3, 1, 5, 100);
        b.lose(12, 1, 0, 250);
        b.hours(2);
        b.sight(1, 11, 3, 0, true);
        b.sight(2, 11, 12, 0, true);
        b.find(0, 2, 5);
        return b;
    }

    private static DogBoard withAnyMarks() {
        DogBoard b = board();
        b.set(1, 8);
        return b;
    }

    private static void due(Edges.Maker maker, String groups, int want) {
        DogBoard b = maker.make();
        int n = (groups.length() + 1) / 7;
        long script = Long.parseLong(groups.replace(" ", ""));
        Check.due("runScript of " + groups, () -> b.runScript(n, script), want);
    }

    private static void succeeds(String groups) {
        due(ScriptEdges::board, groups, -1);
    }

    /** The last of the groups fails, and those ahead of it don't. */
    private static void fails(String groups) {
        due(ScriptEdges::board, groups, (groups.length() + 1) / 7 - 1);
    }

    private static void oneToThreeCommands() {
        Check.sentence(22, "A script has 1 to 3 commands");
        succeeds("100001");
        succeeds("100001 100001");
        succeeds("100001 100001 100001");
        Check.sentence(22, "`n`: number of commands, 1 to 3");
        for (int n : new int[] {Integer.MIN_VALUE, -1, 0, 4, 5, Integer.MAX_VALUE}) {
            Edges.refuses("runScript(" + n + ", 100001)", ScriptEdges::board, b -> b.runScript(n, 100001), Edges.ARGUMENT);
        }
    }

    private static void theHighestGroupIsFirst() {
        Check.sentence(22, "each is a group of six decimal digits d1 to d6, and the first command is the highest group of "
                + "the number (with zeros before it, if it has fewer digits)");
        DogBoard b = board();
        Check.due("hours, and a reward that has grown", () -> b.runScript(2, 100022_810255L), -1);
        Check.due("a reward, and hours", () -> b.runScript(2, 810255_100022L), 0);
        Check.due("one group of two: zeros are the first", () -> b.runScript(2, 100001L), 0);
        Check.due("two groups of three: zeros are the first", () -> b.runScript(3, 100001_100001L), 0);
        Check.due("five digits: the first is a zero", () -> b.runScript(1, 99999L), 0);
        Check.due("nothing", () -> b.runScript(3, 0L), 0);
        Check.sentence(22, "`script`: the commands, a number of at most 6 * n digits (0 or more)");
        Check.due("six digits for one", () -> b.runScript(1, 999_999L), 0);
        Check.due("twelve digits for two", () -> b.runScript(2, 999_999_999_999L), 0);
        Check.due("eighteen digits for three", () -> b.runScript(3, 999_999_999_999_999_999L), 0);
        Check.due("the most, behind what succeeds", () -> b.runScript(3, 100001_100001_999999L), 2);
    }

    private static void onACopy() {
        Check.sentence(22, "Runs a script on a copy of the state.");
        String[] scripts = {"100099 201120 310000", "400011 500050 510008", "317110 400041 100001", "100001 000000 100001"};
        int[] answers = {-1, -1, -1, 1};
        for (int i = 0; i < scripts.length; i++) {
            long script = Long.parseLong(scripts[i].replace(" ", ""));
            Edges.onlyTells("runScript of " + scripts[i], ScriptEdges::board, b -> b.runScript(3, script), answers[i]);
        }
        DogBoard b = board();
        for (int n = 0; n < 5; n++) {
            Check.due("once more", () -> b.runScript(3, 310000_100023_920350L), 2);
        }
    }

    private static void hoursInAScript() {
        Check.sentence(22, "1 0 0 0 n n: hours(nn).");
        fails("100000");
        for (int n = 1; n <= 99; n++) {
            succeeds("1000" + n / 10 + n % 10);
        }
        for (int digit = 1; digit <= 9; digit++) {
            fails("1" + digit + "0001");
            fails("10" + digit + "001");
            fails("100" + digit + "01");
        }
        succeeds("100022 810255");
        fails("100021 810251");
        succeeds("100099 810270");
        fails("100099 810271");
    }

    private static void sightInAScript() {
        Check.sentence(22, "2 f c c m 0: sight(f, cc, 1 << m, 0, false); succeeds if it means a dog.");
        for (int digit = 0; digit <= 9; digit++) {
            due(ScriptEdges::withAnyMarks, "2" + digit + "0000", digit <= 7 ? -1 : 0);
            due(ScriptEdges::withAnyMarks, "2000" + digit + "0", digit <= 7 ? -1 : 0);
            due(ScriptEdges::withAnyMarks, "20000" + digit, digit == 0 ? -1 : 0);
        }
        for (int c = 0; c <= 99; c++) {
            due(ScriptEdges::withAnyMarks, "20" + c / 10 + c % 10 + "00", c <= 11 ? -1 : 0);
        }
        for (int m = 0; m <= 7; m++) {
            int marks = 1 << m;
            for (int seen = 0; seen <= 7; seen++) {
                due(() -> {
                    DogBoard b = new DogBoard();
                    b.set(1, 0);
                    b.lose(marks, 1, 0, 1);
                    return b;
                }, "2000" + seen + "0", seen == m ? -1 : 0);
            }
        }
        fails("200000");
        succeeds("200020");
        due(() -> {
            DogBoard b = board();
            for (int s = 2; s < 20; s++) {
                b.sight(0, 0, 0, 0, false);
            }
            return b;
        }, "200020", 0);
    }

    private static void sightsWithoutAPhoto() {
        Check.sentence(22, "2 f c c m 0: sight(f, cc, 1 << m, 0, false)");
        // Seen at 0 and at 1 in one hour, one of them is a fraud if it has no photo.
        succeeds("200020 700002");
        due(ScriptEdges::board, "200020 200120 700003", 2);
        due(ScriptEdges::board, "200020 200120 700004", -1);
        // Seen now at 1: an hour later it can be at most a street away.
        succeeds("200120 100001 610500");
        fails("200120 100001 610700");
        // The finder 3 gets 1 and 1 for a near corner, of 5, of the 250 coins.
        succeeds("230120 310010 930100");
        fails("230120 310010 930101");
    }

    private static void findInAScript() {
        Check.sentence(22, "3 d f c c 0: find(d, f, cc).");
        for (int digit = 0; digit <= 9; digit++) {
            due(ScriptEdges::board, "3" + digit + "0000", digit == 1 ? -1 : 0);
            due(ScriptEdges::board, "31" + digit + "000", digit <= 7 ? -1 : 0);
            due(ScriptEdges::board, "31000" + digit, digit == 0 ? -1 : 0);
        }
        for (int c = 0; c <= 99; c++) {
            due(ScriptEdges::board, "310" + c / 10 + c % 10 + "0", c <= 11 ? -1 : 0);
        }
        succeeds("317110 970250");
        fails("317110 970251");
        fails("317110 317110");
        fails("310000 610000");
    }

    private static void closeInAScript() {
        Check.sentence(22, "4 a a c c b: close(aa, cc, b is 1).");
        for (int b = 0; b <= 9; b++) {
            due(ScriptEdges::board, "40001" + b, b <= 1 ? -1 : 0);
        }
        for (int a = 0; a <= 99; a++) {
            due(ScriptEdges::board, "4" + a / 10 + a % 10 + "110", a == 7 || a == 10 ? -1 : 0);
            due(ScriptEdges::board, "407" + a / 10 + a % 10 + "1", a == 3 || a == 6 || a == 11 ? -1 : 0);
        }
        fails("403041");
        fails("400001");
        succeeds("400010 610100");
        fails("400011 400041 610100");
        succeeds("400011 610400");
        due(() -> {
            DogBoard b = board();
            b.close(0, 1, true);
            b.close(0, 4, true);
            return b;
        }, "400010 610100", -1);
    }

    private static void setInAScript() {
        Check.sentence(22, "5 w 0 0 v v: set(w, vv).");
        for (int v = 0; v <= 99; v++) {
            due(ScriptEdges::board, "5000" + v / 10 + v % 10, v <= 50 ? -1 : 0);
            due(ScriptEdges::board, "5100" + v / 10 + v % 10, v <= 8 ? -1 : 0);
        }
        for (int digit = 0; digit <= 9; digit++) {
            due(ScriptEdges::board, "5" + digit + "0000", digit <= 1 ? -1 : 0);
            due(ScriptEdges::board, "50" + digit + "000", digit == 0 ? -1 : 0);
            due(ScriptEdges::board, "500" + digit + "00", digit == 0 ? -1 : 0);
        }
        succeeds("500050 100022 810300");
        fails("500050 100022 810301");
        succeeds("510003 200000");
        fails("510000 200020");
    }

    private static void canBeInAScript() {
        Check.sentence(22, "6 d c c 0 0: succeeds if the dog d is missing, and can be now at the corner cc.");
        for (int c = 0; c <= 99; c++) {
            boolean can = c == 0 || c == 1 || c == 2 || c == 4 || c == 5 || c == 8;
            due(ScriptEdges::board, "61" + c / 10 + c % 10 + "00", can ? -1 : 0);
        }
        for (int digit = 0; digit <= 9; digit++) {
            due(ScriptEdges::board, "6" + digit + "0500", digit == 1 ? -1 : 0);
            due(ScriptEdges::board, "6100" + digit + "0", digit == 0 ? -1 : 0);
            due(ScriptEdges::board, "61000" + digit, digit == 0 ? -1 : 0);
        }
        succeeds("100003 611100");
        fails("100002 611100");
    }

    private static void fraudsInAScript() {
        Check.sentence(22, "7 0 0 0 n n: succeeds if at most nn sightings are frauds.");
        for (int n = 0; n <= 99; n++) {
            due(ScriptEdges::board, "7000" + n / 10 + n % 10, n >= 2 ? -1 : 0);
            due(Edges::fresh, "7000" + n / 10 + n % 10, -1);
        }
        for (int digit = 1; digit <= 9; digit++) {
            fails("7" + digit + "0002");
            fails("70" + digit + "002");
            fails("700" + digit + "02");
        }
        succeeds("201120 700003");
        fails("201120 700002");
    }

    private static void rewardInAScript() {
        Check.sentence(22, "8 d 0 n n n: succeeds if the reward of the dog d is at least nnn.");
        succeeds("810000");
        succeeds("810249");
        succeeds("810250");
        fails("810251");
        fails("810999");
        succeeds("800100");
        fails("800101");
        for (int digit = 0; digit <= 9; digit++) {
            due(ScriptEdges::board, "8" + digit + "0000", digit <= 1 ? -1 : 0);
            due(ScriptEdges::board, "81" + digit + "000", digit == 0 ? -1 : 0);
        }
        due(() -> {
            DogBoard b = new DogBoard();
            b.set(0, 50);
            b.lose(1, 1, 0, 499);
            Edges.pass(b, 240);
            return b;
        }, "800999", -1);
    }

    private static void purseInAScript() {
        Check.sentence(22, "9 f 0 n n n: succeeds if the finder f got at least nnn coins so far.");
        succeeds("920000");
        succeeds("920099");
        succeeds("920100");
        fails("920101");
        fails("920999");
        succeeds("970000");
        fails("970001");
        for (int digit = 0; digit <= 9; digit++) {
            due(ScriptEdges::board, "9" + digit + "0000", digit <= 7 ? -1 : 0);
            due(ScriptEdges::board, "92" + digit + "000", digit == 0 ? -1 : 0);
        }
        succeeds("312000 920350");
        fails("312000 920351");
    }

    private static void methodsThatThrow() {
        Check.sentence(22, "The commands 1 to 5 fail if the method would throw an exception");
        for (String group : new String[] {"100000", "300000", "400021", "403041", "500051", "510009", "520000"}) {
            fails(group);
            fails("100001 " + group);
            fails("100001 700002 " + group);
        }
        Check.sentence(22, "commands with dogs, finders or corners that do not exist fail");
        for (String group : new String[] {"280020", "201220", "320000", "318000", "310120", "412111", "411121", "620000",
            "660000", "611200", "820000", "860000", "980000", "990000"}) {
            fails(group);
            fails("100001 " + group);
        }
    }

    private static void anyOtherGroup() {
        Check.sentence(22, "All are decimal numbers.");
        for (int n = 1; n <= 99; n++) {
            int grown = 250 + 5 * ((2 + n) / 24);
            String two = "" + n / 10 + n % 10;
            succeeds("1000" + two + " 810" + grown);
            fails("1000" + two + " 810" + (grown + 1));
            due(ScriptEdges::board, "5000" + two + " 100022 810" + (250 + n), n <= 50 ? -1 : 0);
            due(ScriptEdges::board, "5000" + two + " 100022 810" + (251 + n), n <= 50 ? 2 : 0);
        }
        Check.sentence(22, "and so does any other group (also one with another digit where a 0 is written, a b above 1, or "
                + "an m above 7).");
        for (int digits = 0; digits <= 99999; digits += 101) {
            int group = digits;
            Check.due("a group with a zero ahead, " + digits, () -> board().runScript(1, group), 0);
        }
        for (String group : new String[] {"110001", "200021", "200080", "200090", "310001", "400012", "400019", "501000",
            "500100", "610010", "610001", "710002", "701002", "700102", "811000", "921000"}) {
            fails(group);
        }
    }

    private static void theFirstThatFails() {
        Check.sentence(22, "Returns the index, from 0, of the first command that fails; NONE if all succeed.");
        DogBoard b = board();
        String[] groups = {"000000", "700002"};
        int[] answers = {0, 0, 0, 0, 1, 1, 2, -1};
        for (int i = 0; i < answers.length; i++) {
            String script = groups[i / 4] + groups[i / 2 % 2] + groups[i % 2];
            Check.due("runScript of " + script, () -> b.runScript(3, Long.parseLong(script)), answers[i]);
        }
        Check.due("one that fails", () -> b.runScript(1, 0), 0);
        Check.due("one that succeeds", () -> b.runScript(1, 700002), -1);
    }

    private static void runScriptNeedsItsRanges() {
        Check.sentence(22, "Throws `IllegalArgumentException` if n is out of range, or if script is negative or has more "
                + "than 6 * n digits");
        long[] tooMany = {1_000_000L, 1_000_000_000_000L, 1_000_000_000_000_000_000L};
        for (int commands = 1; commands <= 3; commands++) {
            int n = commands;
            long many = tooMany[n - 1];
            for (long script : new long[] {-1, -100_001, Long.MIN_VALUE, many, many + 1, Long.MAX_VALUE}) {
                Edges.refuses("runScript(" + n + ", " + script + ")", Edges::busy, b -> b.runScript(n, script),
                        Edges.ARGUMENT);
            }
            Edges.onlyTells("runScript(" + n + ", " + (many - 1) + ")", Edges::busy, b -> b.runScript(n, many - 1), 0);
            Edges.onlyTells("runScript(" + n + ", 0)", Edges::busy, b -> b.runScript(n, 0), 0);
        }
        for (int n : new int[] {Integer.MIN_VALUE, -1, 0, 4, Integer.MAX_VALUE}) {
            Edges.refuses("runScript(" + n + ", 0)", Edges::busy, b -> b.runScript(n, 0), Edges.ARGUMENT);
            Edges.refuses("runScript(" + n + ", 100001)", Edges::busy, b -> b.runScript(n, 100001), Edges.ARGUMENT);
        }
    }

    // ---- simulations

    /** The seed for which the first turn's r is this one: the turn's step taken back. */
    private static long seedFor(long r) {
        long inverse = 1;
        for (int i = 0; i < 6; i++) {
            inverse *= 2 - 6364136223846793005L * inverse;
        }
        return ((r << 33) - 1442695040888963407L) * inverse;
    }

    private static void turn(Edges.Maker maker, long r) {
        simulation(maker, seedFor(r), 1);
    }

    /** What a simulation must answer, found by calling the methods themselves on a board that is made alike. */
    private static void simulation(Edges.Maker maker, long seed, int m) {
        DogBoard played = maker.make();
        int givenBefore = played.about(5);
        long x = seed;
        for (int i = 0; i < m; i++) {
            x = x * 6364136223846793005L + 1442695040888963407L;
            play(played, (int) (x >>> 33));
        }
        int given = played.about(5) - givenBefore;
        int want = 1000 * (given % 1000) + 10 * played.about(8) + played.about(1);
        DogBoard b = maker.make();
        Check.due("simulate(" + seed + ", " + m + ")", () -> b.simulate(seed, m), want);
    }

    private static int play(DogBoard b, int r) {
        int q = r / 8;
        int a = q % 12;
        int c = q / 16 % 2 == 0 ? a + 1 : a + 4;
        return Check.answerOf(() -> switch (r % 8) {
            case 0 -> b.lose(1 + q % 255, 1 + q / 256 % 3, q / 1024 % 12, 1 + q / 16384 % 500);
            case 1, 2, 3 -> b.sight(q % 8, q / 8 % 12, q / 128 % 256, q / 32768 % 6, q / 262144 % 2 == 1);
            case 4 -> b.find(q % 6, q / 8 % 8, q / 64 % 12);
            case 5 -> b.close(a, c, q / 64 % 2 == 1);
            default -> b.hours(1 + q % 30);
        });
    }

    private static void oneToSixtyTurns() {
        Check.sentence(23, "`m`: number of turns, 1 to 60");
        for (int m = 1; m <= 60; m++) {
            simulation(Edges::busy, 1000 + m, m);
            simulation(Edges::fresh, -m, m);
        }
    }

    private static void simulatesAsTheMethodsDo() {
        Check.sentence(23, "q is r / 8.");
        for (int r = 0; r < 64; r++) {
            turn(Edges::busy, r);
        }
        Check.sentence(23, "0: lose(1 + q % 255, 1 + q / 256 % 3, q / 1024 % 12, 1 + q / 16384 % 500).");
        for (long q : new long[] {0, 254, 255, 767, 768, 12287, 12288, 8191999, 8192000, (1 << 28) - 1}) {
            turn(Edges::busy, 8 * q);
        }
        Check.sentence(23, "1 to 3: sight(q % 8, q / 8 % 12, q / 128 % 256, q / 32768 % 6, q / 262144 % 2 is 1).");
        for (int i = 0; i < 3000; i++) {
            turn(Edges::busy, 8L * (i * 89477L % (1 << 28)) + 1 + i % 3);
        }
        Check.sentence(23, "4: find(q % 6, q / 8 % 8, q / 64 % 12).");
        for (int q = 0; q < 1000; q++) {
            turn(Edges::busy, 8L * q + 4);
        }
        Check.sentence(23, "5: close(a, b, q / 64 % 2 is 1), with a as q % 12, and b as a and 1, if q / 16 % 2 is 0, "
                + "otherwise a and 4.");
        for (int q = 0; q < 1000; q++) {
            turn(ScriptEdges::seenAllAround, 8L * q + 5);
        }
        Check.sentence(23, "Otherwise: hours(1 + q % 30).");
        for (int q = 0; q < 61; q++) {
            turn(Edges::busy, 8L * q + 6);
            turn(Edges::busy, 8L * q + 7);
        }
        Check.sentence(23, "By r % 8");
        for (long seed = 1; seed <= 400; seed++) {
            simulation(Edges::fresh, seed * 7919, 60);
            simulation(Edges::busy, -seed * 104729, 60);
        }
    }

    /** A dog that is slow and was seen at many corners at the last hour when it could be there, so that each street counts. */
    private static DogBoard seenAllAround() {
        DogBoard b = new DogBoard();
        b.lose(15, 1, 5, 100);
        b.hours(1);
        for (int c : new int[] {1, 4, 6, 9}) {
            b.sight(c % 8, c, 15, 0, true);
        }
        b.hours(1);
        for (int c : new int[] {0, 2, 7, 8, 10}) {
            b.sight(c % 8, c, 15, 0, true);
        }
        b.hours(1);
        b.sight(0, 11, 15, 0, true);
        b.sight(0, 3, 15, 0, true);
        b.close(5, 6, true);
        b.close(8, 9, true);
        return b;
    }

    private static void givenModuloAThousand() {
        Check.sentence(23, "1000 * (the coins given to finders in the turns, modulo 1000)");
        int[] rewards = {449, 450, 451, 500, 1};
        int[] answers = {999_000, 0, 1_000, 50_000, 551_000};
        for (int i = 0; i < rewards.length; i++) {
            int reward = rewards[i];
            DogBoard b = new DogBoard();
            b.set(0, 50);
            b.lose(1, 1, 0, reward);
            Edges.pass(b, 24 * 11);
            Check.due("coins given: " + (reward + 550), () -> b.simulate(seedFor(4), 1), answers[i]);
        }
        DogBoard before = Edges.lostAt(0, 1, 0);
        before.lose(1, 1, 0, 7);
        before.find(1, 0, 0);
        Check.due("coins given ahead of the turns", () -> before.simulate(seedFor(4), 1), 100_000);
        Check.due("coins given ahead of the turns alone", () -> before.simulate(seedFor(6), 1), 1);
    }

    private static void fraudsAndMissingAtTheEnd() {
        Check.sentence(23, "Returns 1000 * (the coins given to finders in the turns, modulo 1000) + 10 * (the sightings at the "
                + "end that are frauds) + (the missing dogs at the end).");
        DogBoard b = new DogBoard();
        Check.due("nothing, an hour", () -> b.simulate(seedFor(6), 1), 0);
        Check.due("nothing, and one is lost", () -> b.simulate(seedFor(0), 1), 1);
        DogBoard six = new DogBoard();
        for (int d = 0; d < 6; d++) {
            six.lose(1, 1, 0, 1);
        }
        for (int s = 0; s < 20; s++) {
            six.sight(0, 11, 1, 0, true);
        }
        Check.due("six dogs, twenty frauds", () -> six.simulate(seedFor(6), 1), 206);
        Check.due("one of them is found, its frauds stay", () -> six.simulate(seedFor(4), 1), 1205);
    }

    private static void whatThrowsIsLeftOut() {
        Check.sentence(23, "What would throw an exception is left out.");
        Edges.onlyTells("a seventh dog", Edges::withSixDogs, b -> b.simulate(seedFor(0), 1), 15);
        Edges.onlyTells("a 21st sighting", Edges::withTwentySightings, b -> b.simulate(seedFor(1), 1), 12);
        Edges.onlyTells("a find of no dog", Edges::busy, b -> b.simulate(seedFor(8 * 5 + 4), 1), 12);
        Edges.onlyTells("a find of a dog that is found", Edges::busy, b -> b.simulate(seedFor(8 * 2 + 4), 1), 12);
        Edges.onlyTells("a street to the next row", Edges::busy, b -> b.simulate(seedFor(8 * 3 + 5), 1), 12);
        Edges.onlyTells("a street to the corner 12", Edges::busy, b -> b.simulate(seedFor(8 * 11 + 5), 1), 12);
        // q / 32768 is 1: an hour ago, when there was no hour.
        Edges.onlyTells("a sighting ahead of the hours", Edges::fresh, b -> b.simulate(seedFor(8 * 32768 + 1), 1), 0);
    }

    private static void anySeed() {
        Check.sentence(23, "`seed`: any long");
        Check.sentence(23, "A long x starts as the seed. Each turn first replaces x by x * 6364136223846793005L + "
                + "1442695040888963407L (with long overflow), and r = (int) (x >>> 33) is computed.");
        for (long seed : new long[] {Long.MIN_VALUE, Long.MIN_VALUE + 1, Integer.MIN_VALUE, -1, 0, 1, Integer.MAX_VALUE,
            Long.MAX_VALUE - 1, Long.MAX_VALUE}) {
            simulation(Edges::busy, seed, 1);
            simulation(Edges::busy, seed, 60);
            simulation(Edges::fresh, seed, 60);
        }
        // The least and the greatest r, and with them the sign bits of x.
        for (long r : new long[] {0, 1, (1L << 30) - 1, 1L << 30, (1L << 31) - 8, (1L << 31) - 1}) {
            turn(Edges::busy, r);
            turn(Edges::fresh, r);
        }
    }

    private static void simulatesOnACopy() {
        Check.sentence(23, "Simulates m turns on a copy of the state.");
        Edges.onlyTells("a loss", Edges::busy, b -> b.simulate(seedFor(0), 1), 13);
        Edges.onlyTells("a find", Edges::busy, b -> b.simulate(seedFor(8 + 4), 1), 55_011);
        Edges.onlyTells("hours", Edges::busy, b -> b.simulate(seedFor(6), 1), 12);
        DogBoard b = Edges.busy();
        int once = b.simulate(99, 60);
        Check.due("once more", () -> b.simulate(99, 60), once);
    }

    private static void simulateNeedsItsRange() {
        Check.sentence(23, "Throws `IllegalArgumentException` if m is out of range");
        for (int m : new int[] {Integer.MIN_VALUE, -1, 0, 61, 62, Integer.MAX_VALUE}) {
            for (long seed : new long[] {0, -1, Long.MAX_VALUE}) {
                Edges.refuses("simulate(" + seed + ", " + m + ")", Edges::busy, b -> b.simulate(seed, m), Edges.ARGUMENT);
            }
        }
    }
}
