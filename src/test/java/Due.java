import java.util.function.IntUnaryOperator;

/** What the tests share: answers are compared with those that are due, and counted. */
final class Due {
    private static int asked = 0;
    private static int wrong = 0;

    private Due() {
    }

    static void is(String call, long got, long want) {
        asked++;
        if (got != want) {
            wrong++;
            System.out.println(call + " answered " + got + ", due is " + want);
        }
    }

    /**
     * A sentence of the document (ahead of it the number of its promise, T for the Terms) and the test of
     * its own that asks whether it holds.
     */
    static void sentence(String words, Runnable test) {
        int askedAhead = asked;
        int wrongAhead = wrong;
        try {
            test.run();
        } catch (RuntimeException e) {
            wrong++;
            System.out.println("thrown: " + e);
        }
        if (asked == askedAhead) {
            wrong++;
            System.out.println("nothing was asked for");
        }
        if (wrong != wrongAhead) {
            System.out.println("^ broken: " + words);
        }
    }

    /** All the numbers are answered alike. */
    static void all(String call, IntUnaryOperator asking, long want, int... numbers) {
        for (int n : numbers) {
            is(call + " of " + n, asking.applyAsInt(n), want);
        }
    }

    /** A ROW of bytes in SHELF d that holds the text. */
    static void text(WindBay bay, int d, String text) {
        is("row for " + text, bay.row(d, 0, text.length()), 0);
        for (int i = 0; i < text.length(); i++) {
            is("put for " + text, bay.put(d, i, text.charAt(i)), 0);
        }
    }

    static void ints(WindBay bay, int d, int... elements) {
        is("row of ints", bay.row(d, 2, elements.length), 0);
        for (int i = 0; i < elements.length; i++) {
            is("put of ints", bay.put(d, i, elements[i]), 0);
        }
    }

    /** The LAW, told from SHELF 7. */
    static void law(WindBay bay, String text) {
        text(bay, 7, text);
        is("law " + text, bay.law(7), 1);
    }

    /** Under a LAW by which a BOAT that goes RIGHT gains so much (0 .. 14) each SECOND, and LEFT 12 less that. */
    static void gain(WindBay bay, int up) {
        law(bay, "30-5*" + up);
    }

    /** x, y, RIGHT, SECONDS of a turn left, turns of a BOAT. */
    static void boat(String when, WindBay bay, int boat, int x, int y, boolean right, int left, int turns) {
        is(when + ": x of " + boat, bay.of(boat, 1), x);
        is(when + ": y of " + boat, bay.of(boat, 2), y);
        is(when + ": RIGHT of " + boat, bay.of(boat, 3), right ? 1 : 0);
        is(when + ": turn left of " + boat, bay.of(boat, 4), left);
        is(when + ": turns of " + boat, bay.of(boat, 7), turns);
    }

    /** To be called at the end of each test. */
    static void end() {
        if (asked == 0) {
            wrong++;
        }
        System.out.println(asked + " answers asked for, " + wrong + " not as due");
        if (wrong != 0) {
            System.exit(1);
        }
    }
}
