import java.util.Random;

/** What the document says of the whole: what the board is, its 512 calls, what it tells, and that changes can be undone. */
final class WholeEdges {
    private static final int MOST_CALLS = 512;
    /** How many calls Edges.busy() makes. */
    private static final int CALLS_OF_BUSY = 35;

    private WholeEdges() {
    }

    static void run() {
        dogsRewardsSightingsAndFinders();
        cornersJoinedByStreets();
        dogsRunByTheirNature();
        rewardsGrowByTheDay();
        marksSomeOfThemWrong();
        photosTellFrauds();
        theDogThatIsMeant();
        cornersBySightings();
        foundDogs();
        rewardsByHelp();
        accountsAddUp();
        eachCallUpToThe512th();
        allOfThe512();
        noMachineExceptionBehindThem();
        howFarCornersAreApart();
        whereADogCanBe();
        whatEachFinderWouldGet();
        changesCanBeUndone();
    }

    private static void dogsRewardsSightingsAndFinders() {
        Check.sentence(0, "Missing dogs, a board of rewards, sightings by street and hour, and finders who share:");
        DogBoard b = new DogBoard();
        Check.due("a dog is lost", () -> b.lose(15, 1, 5, 100), 0);
        Check.due("it is missing", b.about(1), 1);
        Check.due("its reward is on the board", b.about(7), 100);
        b.hours(2);
        Check.due("a street away, an hour ago", () -> b.sight(1, 6, 15, 1, true), 0);
        Check.due("the street", b.sightingOf(0, 1), 6);
        Check.due("the hour", b.sightingOf(0, 2), 1);
        Check.due("who finds it", () -> b.find(0, 2, 6), 50);
        Check.due("who shares", b.purse(1), 50);
    }

    private static void cornersJoinedByStreets() {
        Check.sentence(0, "a quarter of corners joined by streets,");
        DogBoard b = new DogBoard();
        for (int c = 0; c < 12; c++) {
            Check.due("from the corner 0 to " + c, b.apart(0, c, 0), c / 4 + c % 4);
            Check.due("from " + c + " to the corner 11", b.apart(c, 11, 1), 2 - c / 4 + 3 - c % 4);
        }
    }

    private static void dogsRunByTheirNature() {
        Check.sentence(0, "dogs with marks that run from corner to corner by their own nature,");
        DogBoard b = new DogBoard();
        int[] reached = {0b0011, 0b0111, 0b1111};
        for (int pace = 1; pace <= 3; pace++) {
            b.lose(pace, pace, 0, 1);
        }
        b.close(0, 4, true);
        b.close(1, 5, true);
        b.close(2, 6, true);
        b.close(3, 7, true);
        b.hours(1);
        for (int pace = 1; pace <= 3; pace++) {
            Check.due("the marks of the dog with the pace " + pace, b.dogOf(pace - 1, 0), pace);
            Check.due("how far it runs in an hour", b.canBe(pace - 1), reached[pace - 1]);
        }
    }

    private static void rewardsGrowByTheDay() {
        Check.sentence(0, "notices with rewards that grow by the day,");
        DogBoard b = Edges.lostAt(0, 1, 0);
        for (int day = 1; day <= 10; day++) {
            Check.due("the hours of the day " + day, () -> b.hours(24), 5);
            Check.due("the reward behind the day " + day, b.dogOf(0, 4), 100 + 5 * day);
        }
    }

    private static void marksSomeOfThemWrong() {
        Check.sentence(0, "sightings that tell marks, some of them wrong,");
        DogBoard b = Edges.lostAt(0, 1, 0);
        Check.due("one mark is wrong", () -> b.sight(0, 0, 0b1_1111, 0, true), 0);
        Check.due("how many are", b.sightingOf(0, 6), 1);
        Check.due("one is missed too", () -> b.sight(0, 0, 0b1_0111, 0, true), 0);
        Check.due("how many are unlike", b.sightingOf(1, 6), 2);
        Check.due("what was told", b.sightingOf(1, 3), 0b1_0111);
    }

    private static void photosTellFrauds() {
        Check.sentence(0, "photos by which frauds are told,");
        DogBoard b = Edges.lostAt(5, 1, 1);
        b.sight(0, 6, 15, 0, true);
        b.sight(1, 4, 15, 0, false);
        Check.due("with a photo", b.sightingOf(0, 8), 0);
        Check.due("without one, it fits not the other", b.sightingOf(1, 8), 1);
        b.undo();
        b.sight(1, 4, 15, 0, true);
        Check.due("with a photo it fits not the other too", b.sightingOf(1, 8), 0);
    }

    private static void theDogThatIsMeant() {
        Check.sentence(0, "the dog that a sighting means,");
        DogBoard b = new DogBoard();
        b.lose(0b0000_0111, 1, 0, 1);
        b.lose(0b1110_0000, 1, 0, 1);
        Check.due("the first", () -> b.sight(0, 0, 0b0000_0011, 0, true), 0);
        Check.due("the second", () -> b.sight(0, 0, 0b1100_0000, 0, true), 1);
        Check.due("neither", () -> b.sight(0, 0, 0b0001_1000, 0, true), -1);
        for (int s = 0; s < 3; s++) {
            Check.due("the dog of the sighting " + s, b.sightingOf(s, 5), s == 2 ? -1 : s);
        }
    }

    private static void cornersBySightings() {
        Check.sentence(0, "corners where a dog can be by its sightings,");
        DogBoard b = Edges.lostAt(5, 1, 9);
        Check.due("without sightings", () -> b.canBe(0), 0b1111_1111_1111);
        b.sight(0, 0, 15, 1, true);
        Check.due("an hour behind one at the corner 0", () -> b.canBe(0), 0b0000_0001_0011);
        b.sight(0, 4, 15, 0, true);
        Check.due("and at the corner 4 now", () -> b.canBe(0), 0b0000_0001_0000);
    }

    private static void foundDogs() {
        Check.sentence(0, "found dogs,");
        DogBoard b = Edges.lostAt(5, 1, 9);
        Check.due("a missing one's corner", b.dogOf(0, 8), -1);
        b.find(0, 6, 11);
        Check.due("its corner", b.dogOf(0, 8), 11);
        Check.due("its finder", b.dogOf(0, 9), 6);
        Check.due("its hour", b.dogOf(0, 10), 9);
        Check.due("those missing", b.about(1), 0);
    }

    private static void rewardsByHelp() {
        Check.sentence(0, "rewards that are shared by how much each sighting helped,");
        DogBoard b = Edges.lostAt(5, 3, 9);
        b.sight(1, 5, 15, 0, true);
        b.sight(2, 5, 15, 0, false);
        b.sight(3, 11, 15, 5, false);
        // 3 for a photo near by, 2 near by, 1 far away, and 3 for the one who finds it: of 9.
        Check.due("who finds it", () -> b.find(0, 0, 5), 33);
        Check.due("with a photo, near by", b.purse(1), 33);
        Check.due("near by", b.purse(2), 22);
        Check.due("far away", b.purse(3), 11);
        Check.due("what stays", b.about(6), 1);
    }

    /** What is paid is given, or stayed, or is still a missing dog's; and what is given is in the purses. */
    private static void accountsAddUp() {
        Check.sentence(0, "accounts of coins that add up.");
        Random random = new Random(11);
        for (int run = 0; run < 60; run++) {
            DogBoard b = new DogBoard();
            for (int step = 0; step < 31; step++) {
                for (int n = 0; n < 4; n++) {
                    actSomehow(b, random);
                }
                int given = 0;
                for (int f = 0; f < 8; f++) {
                    given += b.purse(f);
                }
                Check.due("the purses together", b.about(5), given);
                Check.due("what is paid", b.about(4), given + b.about(6) + b.about(7));
            }
        }
    }

    private static int actSomehow(DogBoard b, Random random) {
        int kind = random.nextInt(16);
        int finder = random.nextInt(8);
        int corner = random.nextInt(12);
        int n = 1 + random.nextInt(50);
        return Check.answerOf(() -> switch (kind) {
            case 0 -> b.lose(n, 1 + n % 3, corner, 10 * n);
            case 1, 2, 3, 4, 5, 6, 7 -> b.sight(finder, corner, random.nextInt(64), random.nextInt(3), n % 2 == 0);
            case 8, 9 -> b.find(random.nextInt(6), finder, corner);
            case 10 -> b.close(corner, corner + 1, n % 2 == 0);
            case 11 -> b.set(0, n);
            case 12, 13 -> b.undo();
            default -> b.hours(n);
        });
    }

    private static final String USED = "An object is used for at most 512 calls after it has been made; what later calls "
            + "answer is free.";

    private static final Edges.Question[] EACH = {
        b -> b.append('h'), b -> b.clearText(), b -> b.errorPosition(), b -> b.load(), b -> b.about(4), b -> b.dogOf(1, 4),
        b -> b.sightingOf(2, 8), b -> b.purse(7), b -> b.apart(8, 9, 0), b -> b.apart(8, 9, 1), b -> b.lose(1, 1, 0, 1),
        b -> b.sight(0, 0, 15, 0, true), b -> b.find(0, 1, 5), b -> b.close(4, 5, true), b -> b.hours(99),
        b -> b.set(0, 50), b -> b.undo(), b -> b.canBe(1), b -> b.watch(), b -> b.meant(15), b -> b.ifFound(0, 1, 5, 2),
        b -> b.runScript(3, 100001_200020_700001L), b -> b.simulate(99, 60), b -> b.save(0), b -> b.restore(1),
        b -> b.restore(2), b -> b.canBe(2)};

    /** Each call answers as the 512th what it answers ahead of some hundred calls that change nothing. */
    private static void eachCallUpToThe512th() {
        Check.sentence(0, USED);
        for (int i = 0; i < EACH.length; i++) {
            Edges.Question question = EACH[i];
            DogBoard early = Edges.busy();
            DogBoard late = Edges.busy();
            for (int call = CALLS_OF_BUSY + 1; call < MOST_CALLS; call++) {
                late.watch();
            }
            int want = Check.answerOf(() -> question.of(early));
            Check.due("the 512th call, " + i, () -> question.of(late), want);
            Check.isTrue("no machine's exception", want != Check.MACHINE_THROWS);
        }
    }

    private static void allOfThe512() {
        Check.sentence(0, USED);
        DogBoard b = new DogBoard();
        b.set(0, 50);
        b.lose(15, 1, 5, 500);
        for (int call = 3; call < MOST_CALLS; call++) {
            b.hours(99);
        }
        Check.due("the reward of 509 * 99 hours", b.dogOf(0, 4), 500 + 50 * (509 * 99 / 24));
        DogBoard back = new DogBoard();
        for (int call = 1; call < MOST_CALLS; call += 2) {
            Check.due("an hour, growth", () -> back.hours(1), 0);
            Check.due("an hour taken back", () -> back.undo(), 0);
        }
    }

    private static void noMachineExceptionBehindThem() {
        Check.sentence(Check.NOT_PROMISED, "Nothing is promised beyond the answers and state changes described above, and "
                + "nothing about an object after its 512th call.");
        DogBoard b = Edges.busy();
        b.set(0, 50);
        for (int n = 0; n < 25_000_000; n++) {
            b.hours(99);
        }
        Check.isTrue("the numbers have run over", b.about(3) < 0);
        for (int i = 0; i < EACH.length; i++) {
            Edges.Question question = EACH[i];
            Check.isTrue("no machine's exception long behind the 512th call, " + i,
                    Check.answerOf(() -> question.of(b)) != Check.MACHINE_THROWS);
        }
    }

    private static void howFarCornersAreApart() {
        Check.sentence(0, "It tells how far corners are apart, in two ways that must agree,");
        DogBoard b = Edges.busy();
        for (int pair = 0; pair < 144; pair++) {
            Check.due("both ways, " + pair / 12 + ", " + pair % 12, b.apart(pair / 12, pair % 12, 0),
                    b.apart(pair % 12, pair / 12, 1));
        }
        // The streets between 2 and 3, and 8 and 9, are closed.
        Check.due("around the one", b.apart(2, 3, 0), 3);
        Check.due("around the other", b.apart(8, 9, 1), 3);
    }

    private static void whereADogCanBe() {
        Check.sentence(0, "where a dog can be, by which sightings, the corner to be watched,");
        DogBoard b = Edges.lostAt(5, 1, 2);
        b.sight(3, 6, 15, 1, true);
        b.sight(4, 11, 15, 0, true);
        Check.due("where it can be", () -> b.canBe(0), 1 << 6 | 1 << 2 | 1 << 5 | 1 << 7 | 1 << 10);
        Check.due("sightings that mean it", b.dogOf(0, 6), 2);
        Check.due("by how many", b.dogOf(0, 7), 1);
        Check.due("by the first", b.sightingOf(0, 8), 0);
        Check.due("not by the second", b.sightingOf(1, 8), 1);
        Check.due("the corner to be watched", () -> b.watch(), 2);
    }

    private static void whatEachFinderWouldGet() {
        Check.sentence(0, "what each finder would get.");
        DogBoard b = Edges.lostAt(5, 1, 2);
        b.sight(3, 6, 15, 1, true);
        b.sight(4, 11, 15, 0, true);
        b.sight(5, 5, 15, 0, false);
        // Found at 6: 3 for the finder 3 with a photo there, 2 for 5 a street away, none for 4, 3 for the finder 7.
        int[] coins = {0, 0, 0, 37, 0, 25, 0, 37};
        for (int f = 0; f < 8; f++) {
            int other = f;
            Check.due("what " + f + " would get", () -> b.ifFound(0, 7, 6, other), coins[f]);
        }
        b.find(0, 7, 6);
        for (int f = 0; f < 8; f++) {
            Check.due("what " + f + " gets", b.purse(f), coins[f]);
        }
    }

    private static void changesCanBeUndone() {
        Check.sentence(0, "Changes can be undone.");
        Edges.Question[] changes = {
            b -> b.lose(255, 3, 11, 500), b -> b.sight(7, 6, 15, 0, true), b -> b.find(0, 3, 5), b -> b.close(0, 1, true),
            b -> b.close(2, 3, false), b -> b.hours(99), b -> b.set(0, 50), b -> b.set(1, 8)};
        for (Edges.Question change : changes) {
            DogBoard b = Edges.busy();
            String before = Check.stateOf(b);
            change.of(b);
            Check.due("undo", () -> b.undo(), 13);
            Check.same("undone", Check.stateOf(b), before);
            Check.due("growth", () -> b.set(0, 1), 8);
            Check.due("unlike marks", () -> b.set(1, 1), 3);
        }
    }
}
