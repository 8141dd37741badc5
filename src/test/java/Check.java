import java.util.LinkedHashSet;
import java.util.Set;

/** Counts the answers that are not the ones that are due. */
final class Check {
    static final int MACHINE_THROWS = Integer.MIN_VALUE;

    /** What a call answers when it throws; far from every number that a call returns. */
    static final int BOUNDS = Integer.MIN_VALUE + 1;
    static final int ARGUMENT = Integer.MIN_VALUE + 2;
    static final int STATE = Integer.MIN_VALUE + 3;

    /** The number under which a test quotes what stands ahead of the promises. */
    static final int TERMS = 0;
    /** The number under which a test quotes what stands behind the promises. */
    static final int NOT_PROMISED = -1;

    private static final int MOST_SECONDS = 300;

    private static final Set<Quote> QUOTES = new LinkedHashSet<>();
    private static int checked = 0;
    private static int wrong = 0;
    private static volatile String against = "";

    static {
        Thread watch = new Thread(Check::failLate);
        watch.setDaemon(true);
        watch.start();
    }

    private Check() {
    }

    /** A call that never ends must fail the test, and not keep it waiting. */
    private static void failLate() {
        try {
            Thread.sleep(1000L * MOST_SECONDS);
        } catch (InterruptedException e) {
            return;
        }
        System.out.println(against + "the test has not ended in " + MOST_SECONDS + " seconds");
        Runtime.getRuntime().halt(1);
    }

    /** A call whose answer is looked at. */
    interface Call {
        int answer();
    }

    /** Words of the document, and the promise under whose number they stand. */
    record Quote(int promise, String words) {
    }

    /** Says against which sentence of the document the class is held from here on. */
    static void sentence(int promise, String words) {
        Quote quote = new Quote(promise, words);
        QUOTES.add(quote);
        against(quote);
    }

    /** Says which words are printed with a wrong answer, and leaves open whether a test quotes them. */
    static void against(Quote quote) {
        String where = quote.promise() > TERMS ? "Promise " + quote.promise() : "Beside the promises";
        against = where + ", \"" + quote.words() + "\"\n  ";
    }

    static Set<Quote> quotes() {
        return QUOTES;
    }

    static void due(String what, int got, int want) {
        checked++;
        if (got != want) {
            wrong++;
            System.out.println(against + what + " answered " + name(got) + ", due is " + name(want));
        }
    }

    static void due(String what, Call call, int want) {
        due(what, answerOf(call), want);
    }

    static int answerOf(Call call) {
        try {
            return call.answer();
        } catch (RuntimeException e) {
            return numberOf(e);
        }
    }

    private static int numberOf(RuntimeException e) {
        // The exact classes: an ArrayIndexOutOfBoundsException would be the machine's.
        if (e.getClass() == IndexOutOfBoundsException.class) {
            return BOUNDS;
        }
        if (e.getClass() == IllegalArgumentException.class) {
            return ARGUMENT;
        }
        return e.getClass() == IllegalStateException.class ? STATE : MACHINE_THROWS;
    }

    private static String name(int answer) {
        switch (answer) {
            case BOUNDS: return "IndexOutOfBoundsException";
            case ARGUMENT: return "IllegalArgumentException";
            case STATE: return "IllegalStateException";
            case MACHINE_THROWS: return "an exception that the document doesn't name";
            default: return Integer.toString(answer);
        }
    }

    static void write(DogBoard board, String text) {
        for (int i = 0; i < text.length(); i++) {
            board.append(text.charAt(i));
        }
    }

    static DogBoard loaded(String text) {
        DogBoard board = new DogBoard();
        write(board, text);
        board.load();
        return board;
    }

    /** Every number that the board tells of itself, so that two boards can be compared. */
    static String stateOf(DogBoard board) {
        StringBuilder all = new StringBuilder(totalsOf(board));
        int dogs = board.about(0);
        for (int d = 0; d < dogs; d++) {
            for (int what = 0; what <= 10; what++) {
                all.append("dog ").append(d).append(',').append(what).append('=').append(board.dogOf(d, what)).append(' ');
            }
        }
        int sightings = board.about(2);
        for (int s = 0; s < sightings; s++) {
            for (int what = 0; what <= 8; what++) {
                all.append("sighting ").append(s).append(',').append(what).append('=');
                all.append(board.sightingOf(s, what)).append(' ');
            }
        }
        // Streets side by side and one above the other, some of which don't exist: the ways tell which are closed.
        for (int c = 0; c < 11; c++) {
            all.append(board.apart(c, c + 1, 0)).append('.');
            all.append(c < 8 ? board.apart(c, c + 4, 0) : 0).append('.');
        }
        return all.toString();
    }

    static void same(String what, String got, String want) {
        checked++;
        if (!got.equals(want)) {
            wrong++;
            System.out.println(against + what + ": the state is\n  " + got + "\ndue is\n  " + want);
        }
    }

    /** The numbers of the whole board: a short look, since a board is promised for 512 calls only. */
    private static String totalsOf(DogBoard board) {
        StringBuilder all = new StringBuilder();
        for (int what = 0; what <= 10; what++) {
            all.append("about ").append(what).append('=').append(board.about(what)).append(' ');
        }
        for (int f = 0; f < 8; f++) {
            all.append("purse ").append(f).append('=').append(board.purse(f)).append(' ');
        }
        return all.toString();
    }

    /** A call that must throw, and must leave the board's numbers; Edges.refuses looks at everything. */
    static void refused(DogBoard board, String what, Call call, int want) {
        String before = totalsOf(board);
        due(what, call, want);
        same(what + ", refused", totalsOf(board), before);
    }

    static void isTrue(String what, boolean holds) {
        due(what, holds ? 1 : 0, 1);
    }

    /** Ends a test: with exit code 1 if an answer was wrong. */
    static void end(String test) {
        System.out.println(test + ": " + checked + " checked, " + wrong + " wrong");
        if (wrong != 0 || checked == 0) {
            System.exit(1);
        }
    }
}
