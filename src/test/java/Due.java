/** Compares answers with those that are due, and helps tests to set up nets, laws and rows. */
final class Due {
    static final int BAD = -1, NOT = -2, FULL = -3, STATE = -5, VOID = -2000000000;
    static final int LEAST = Integer.MIN_VALUE, MOST = Integer.MAX_VALUE;

    /** A call of which one argument is told by the test. */
    interface Call {
        long with(int v);
    }

    private final String test;
    private String sentence = "";
    private int sentences;
    private int asked;
    private int wrong;

    Due(String test) {
        this.test = test;
    }

    /** What is asked from here on tests this sentence of the document. */
    void sentence(String told) {
        sentence = " [" + told + "]";
        sentences++;
    }

    void is(String call, long got, long want) {
        asked++;
        if (got != want) {
            wrong++;
            System.out.println(test + sentence + ": " + call + " answered " + got + ", due is " + want);
        }
    }

    /** The same answer is due for each of these arguments. */
    void each(String call, Call f, long want, int... arguments) {
        for (int v : arguments) {
            is(call.replace("#", "" + v), f.with(v), want);
        }
    }

    /** Tells how it went, and ends the program with exit code 1 if an answer was wrong. */
    void end() {
        String told = sentences == 0 ? "" : sentences + " sentences, ";
        System.out.println(test + ": " + told + asked + " answers, " + wrong + " wrong");
        if (wrong != 0 || asked == 0) {
            System.exit(1);
        }
    }

    static void tape(RoadsThanked x, String text) {
        for (char letter : text.toCharArray()) {
            x.feed(letter);
        }
    }

    static int law(RoadsThanked x, String text) {
        tape(x, text);
        return x.law();
    }

    static void row(RoadsThanked x, int shelf, int sort, long... elements) {
        x.row(shelf, sort, elements.length);
        for (int i = 0; i < elements.length; i++) {
            x.put(shelf, i, elements[i]);
        }
    }

    /** Roads by pairs: ft, length. */
    static RoadsThanked net(int... pairs) {
        RoadsThanked x = new RoadsThanked();
        for (int i = 0; i + 1 < pairs.length; i += 2) {
            x.road(pairs[i], pairs[i + 1]);
        }
        return x;
    }

    static RoadsThanked fullNet() {
        RoadsThanked x = new RoadsThanked();
        for (int i = 0; i < 12; i++) {
            x.road(1, 10 + i);
        }
        return x;
    }

    /** Roads 0 to 6 from each place to the next one, of 10, 11 and so on: by tens no two ways are alike. */
    static RoadsThanked line() {
        return net(1, 10, 12, 11, 23, 12, 34, 13, 45, 14, 56, 15, 67, 16);
    }

    /** Hours between two places of line(). */
    static int onLine(int from, int to) {
        int hours = 0;
        for (int p = Math.min(from, to); p < Math.max(from, to); p++) {
            hours += 10 + p;
        }
        return hours;
    }

    /** What is no pair of unlike places. */
    static int[] noPairs() {
        int[] some = {LEAST, LEAST + 1, -1000, -77, -12, -10, -2, -1, 0, 11, 22, 33, 44, 55, 66, 77, 8, 9, 18, 19, 28, 29, 38, 39, 48, 49,
            58, 59, 68, 69, 78, 79, 80, 81, 87, 88, 89, 90, 97, 98, 99, 100, 101, 110, 177, 1001, MOST - 1, MOST};
        return some;
    }
}
