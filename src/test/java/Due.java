/** Compares answers with those that are due, and helps tests to set up nets, laws and rows. */
final class Due {
    private final String test;
    private int asked;
    private int wrong;

    Due(String test) {
        this.test = test;
    }

    void is(String call, long got, long want) {
        asked++;
        if (got != want) {
            wrong++;
            System.out.println(test + ": " + call + " answered " + got + ", due is " + want);
        }
    }

    /** Tells how it went, and ends the program with exit code 1 if an answer was wrong. */
    void end() {
        System.out.println(test + ": " + asked + " answers, " + wrong + " wrong");
        if (wrong != 0 || asked == 0) {
            System.exit(1);
        }
    }

    static int law(RoadsThanked x, String text) {
        for (char letter : text.toCharArray()) {
            x.feed(letter);
        }
        return x.law();
    }

    static void row(RoadsThanked x, int shelf, int sort, long... elements) {
        x.row(shelf, sort, elements.length);
        for (int i = 0; i < elements.length; i++) {
            x.put(shelf, i, elements[i]);
        }
    }

    /** Roads by pairs: ft, length. */
    static RoadsThanked net(int... pairs) {
        RoadsThanked x = new RoadsThanked();
        for (int i = 0; i + 1 < pairs.length; i += 2) {
            x.road(pairs[i], pairs[i + 1]);
        }
        return x;
    }

    static RoadsThanked fullNet() {
        RoadsThanked x = new RoadsThanked();
        for (int i = 0; i < 12; i++) {
            x.road(1, 10 + i);
        }
        return x;
    }
}
