/** Counts the answers that are not the ones that are due. */
final class Check {
    static final int MACHINE_THROWS = Integer.MIN_VALUE;

    /** What a call answers when it throws; far from every number that a call returns. */
    static final int BOUNDS = Integer.MIN_VALUE + 1;
    static final int ARGUMENT = Integer.MIN_VALUE + 2;
    static final int STATE = Integer.MIN_VALUE + 3;

    private static int checked = 0;
    private static int wrong = 0;

    private Check() {
    }

    /** A call whose answer is looked at. */
    interface Call {
        int answer();
    }

    static void due(String what, int got, int want) {
        checked++;
        if (got != want) {
            wrong++;
            System.out.println(what + " answered " + name(got) + ", due is " + name(want));
        }
    }

    static void due(String what, Call call, int want) {
        due(what, answerOf(call), want);
    }

    static int answerOf(Call call) {
        try {
            return call.answer();
        } catch (RuntimeException e) {
            return numberOf(e);
        }
    }

    private static int numberOf(RuntimeException e) {
        // The exact classes: an ArrayIndexOutOfBoundsException would be the machine's.
        if (e.getClass() == IndexOutOfBoundsException.class) {
            return BOUNDS;
        }
        if (e.getClass() == IllegalArgumentException.class) {
            return ARGUMENT;
        }
        return e.getClass() == IllegalStateException.class ? STATE : MACHINE_THROWS;
    }

    private static String name(int answer) {
        switch (answer) {
            case BOUNDS: return "IndexOutOfBoundsException";
            case ARGUMENT: return "IllegalArgumentException";
            case STATE: return "IllegalStateException";
            case MACHINE_THROWS: return "an exception that the document doesn't name";
            default: return Integer.toString(answer);
        }
    }

    static void write(DogBoard board, String text) {
        for (int i = 0; i < text.length(); i++) {
            board.append(text.charAt(i));
        }
    }

    static DogBoard loaded(String text) {
        DogBoard board = new DogBoard();
        write(board, text);
        board.load();
        return board;
    }

    /** Every number that the board tells of itself, so that two boards can be compared. */
    static String stateOf(DogBoard board) {
        StringBuilder all = new StringBuilder();
        for (int what = 0; what <= 10; what++) {
            all.append("about ").append(what).append('=').append(board.about(what)).append(' ');
        }
        for (int d = 0; d < board.about(0); d++) {
            for (int what = 0; what <= 10; what++) {
                all.append("dog ").append(d).append(',').append(what).append('=').append(board.dogOf(d, what)).append(' ');
            }
        }
        for (int s = 0; s < board.about(2); s++) {
            for (int what = 0; what <= 8; what++) {
                all.append("sighting ").append(s).append(',').append(what).append('=');
                all.append(board.sightingOf(s, what)).append(' ');
            }
        }
        for (int f = 0; f < 8; f++) {
            all.append("purse ").append(f).append('=').append(board.purse(f)).append(' ');
        }
        for (int a = 0; a < 12; a++) {
            for (int b = 0; b < 12; b++) {
                all.append(board.apart(a, b, 0)).append('.');
            }
        }
        return all.toString();
    }

    static void same(String what, String got, String want) {
        checked++;
        if (!got.equals(want)) {
            wrong++;
            System.out.println(what + ": the state is\n  " + got + "\ndue is\n  " + want);
        }
    }

    /** A call that must throw, and must change nothing. */
    static void refused(DogBoard board, String what, Call call, int want) {
        String before = stateOf(board);
        due(what, call, want);
        same(what + ", refused", stateOf(board), before);
    }

    static void isTrue(String what, boolean holds) {
        due(what, holds ? 1 : 0, 1);
    }

    /** Ends a test: with exit code 1 if an answer was wrong. */
    static void end(String test) {
        System.out.println(test + ": " + checked + " checked, " + wrong + " wrong");
        if (wrong != 0 || checked == 0) {
            System.exit(1);
        }
    }
}
