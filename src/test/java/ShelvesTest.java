/** Promises 32 to 41: stones and their acts, shelves and what they hold, counts. */
final class ShelvesTest {
    private static final int LEAST = Integer.MIN_VALUE, MOST = Integer.MAX_VALUE;
    private static final Due due = new Due("ShelvesTest");

    public static void main(String[] args) {
        promise32Body();
        promise33Act();
        promise33Wrong();
        promise34Trace();
        promise35Keep();
        promise36Row();
        promise37Put();
        promise38Element();
        promise39Shift();
        promise39Refusals();
        promise40Taken();
        promise41Count();
        due.end();
    }

    private static void promise32Body() {
        RoadsThanked x = new RoadsThanked();
        for (int kind : new int[] {-1, 8, LEAST, MOST}) {
            due.is("kind", x.body(kind), -1);
        }
        for (int i = 0; i < 50; i++) {
            due.is("body", x.body(i % 8), i);
        }
        due.is("full", x.body(0), -3);
        due.is("BAD goes ahead of FULL", x.body(8), -1);
        due.is("count", x.count(4), 50);
    }

    /** Worked out by hand from the document, for x = 7 and a stone whose number is its kind. */
    private static void promise33Act() {
        RoadsThanked x = new RoadsThanked();
        for (int kind = 0; kind < 8; kind++) {
            x.body(kind);
        }
        int[][] want = {
            // leads, thanks, sulks, tells
            {7, 14, 7, 14 - 1},
            {11, 22, 6, 22 - 0},
            {9, -18, 5, -18 - 3},
            {10, -22, 12, -22 - 6},
            {14, 28, 3 - 9, 28 - (5 - 9)},
            {12, -26, 6, (-26 - 12) ^ 5},
            {26, 52, 1, 52 - 7},
            {17, 34 + (5 - 12), 0 - 12, 34 + (5 - 12) - (6 - 12) - 1},
        };
        for (int kind = 0; kind < 8; kind++) {
            for (int act = 0; act < 4; act++) {
                due.is("act(" + kind + ", " + act + ", 7)", x.act(kind, act, 7), want[kind][act]);
            }
        }
        due.is("wraps", x.act(0, 1, MOST), -2);
        due.is("wraps", x.act(1, 0, MOST), MOST + 4);
        due.is("wraps", x.act(2, 1, LEAST + 1), -((LEAST + 3) * 2));
        due.is("wraps", x.act(3, 2, MOST), (MOST ^ 3) * 3);
    }

    private static void promise33Wrong() {
        RoadsThanked x = new RoadsThanked();
        x.body(1);
        for (int body : new int[] {-1, 1, 50, LEAST, MOST}) {
            x.act(0, 0, 5);
            due.is("ran", x.count(5), 2);
            due.is("no such stone", x.act(body, 0, 5), 0);
            due.is("no trace then", x.trace(0), -1);
            due.is("no trace then", x.count(5), 0);
        }
        for (int act : new int[] {-1, 4, LEAST, MOST}) {
            x.act(0, 3, 5);
            due.is("no such act", x.act(0, act, 5), 0);
            due.is("no trace then", x.trace(0), -1);
            due.is("no trace then", x.count(5), 0);
        }
    }

    private static void traces(RoadsThanked x, int kind, int act, int... want) {
        x.act(kind, act, 3);
        due.is("kind " + kind + ", act " + act + ": how many", x.count(5), want.length);
        for (int i = 0; i < want.length; i++) {
            due.is("kind " + kind + ", act " + act + ": trace(" + i + ")", x.trace(i), want[i]);
        }
        due.is("behind its end", x.trace(want.length), -1);
    }

    private static void promise34Trace() {
        RoadsThanked x = new RoadsThanked();
        due.is("none yet", x.trace(0), -1);
        for (int kind = 0; kind < 8; kind++) {
            x.body(kind);
        }
        traces(x, 0, 0, 1);
        traces(x, 0, 1, 10, 1);
        traces(x, 0, 2, 11);
        traces(x, 0, 3, 2, 10, 1, 11);
        traces(x, 1, 0, 20, 1);
        traces(x, 1, 1, 10, 20, 1);
        traces(x, 1, 3, 2, 10, 20, 1, 11);
        traces(x, 2, 1, 30, 10, 1);
        traces(x, 2, 3, 2, 30, 10, 1, 11);
        traces(x, 3, 1, 41, 30, 10, 1);
        traces(x, 3, 2, 40, 11);
        traces(x, 3, 3, 2, 41, 30, 10, 1, 40, 11);
        traces(x, 4, 2, 50, 11, 20, 1);
        traces(x, 4, 3, 2, 10, 20, 1, 50, 11, 20, 1);
        traces(x, 5, 0, 1);
        traces(x, 5, 3, 60, 2, 41, 30, 10, 1, 40, 11);
        traces(x, 6, 0, 70, 1);
        traces(x, 6, 3, 2, 10, 70, 1, 11);
        traces(x, 7, 0, 20, 1);
        traces(x, 7, 1, 80, 10, 20, 1, 50, 11, 20, 1);
        traces(x, 7, 2, 50, 11, 20, 1);
        traces(x, 7, 3, 81, 2, 80, 10, 20, 1, 50, 11, 20, 1, 50, 11, 20, 1);
        traces(x, 0, 0, 1);
        for (int i : new int[] {-1, 24, LEAST, MOST}) {
            due.is("trace", x.trace(i), -1);
        }
    }

    private static void promise35Keep() {
        RoadsThanked x = new RoadsThanked();
        due.is("no such stone", x.keep(0, 0), -1);
        x.body(5);
        x.body(6);
        due.is("keep", x.keep(0, 1), 1);
        due.is("taken", x.taken(0, 0), 6);
        due.is("keep", x.keep(0, 0), 1);
        due.is("taken", x.taken(0, 0), 5);
        due.is("nothing", x.keep(0, -1), 1);
        due.is("taken", x.taken(0, 0), -11);
        x.row(5, 2, 9);
        due.is("in a row's place", x.keep(5, 1), 1);
        due.is("no row any more", x.put(5, 0, 1), -12);
        x.row(5, 2, 9);
        due.is("nothing in a row's place", x.keep(5, -1), 1);
        due.is("no row any more", x.put(5, 0, 1), -11);
        for (int body : new int[] {-2, 2, LEAST, MOST}) {
            due.is("body", x.keep(0, body), -1);
        }
        x.keep(1, 0);
        for (int shelf : new int[] {-1, 6, LEAST, MOST}) {
            due.is("shelf", x.keep(shelf, 0), -1);
            due.is("shelf", x.keep(shelf, -1), -1);
        }
        x.keep(1, 7);
        due.is("a refusal changes nothing", x.taken(1, 0), 5);
        due.is("one stone on two shelves", x.keep(2, 0), 1);
        due.is("one stone on two shelves", x.taken(1, 0) + x.taken(2, 0), 10);
    }

    private static void promise36Row() {
        RoadsThanked x = new RoadsThanked();
        for (int sort = 0; sort < 5; sort++) {
            due.is("row", x.row(0, sort, 60), 1);
            due.is("0 at first", x.element(0, 59), 0);
            x.put(0, 59, 1);
            x.put(0, 0, 1);
            due.is("its size", x.put(0, 60, 1), -13);
            due.is("a new one", x.row(0, sort, 3), 1);
            due.is("0 at first", x.element(0, 0), 0);
            due.is("its size", x.put(0, 3, 1), -13);
            due.is("a longer one", x.row(0, sort, 60), 1);
            due.is("0 at first", x.element(0, 59), 0);
            due.is("of none", x.row(0, sort, 0), 1);
            due.is("of none", x.put(0, 0, 1), -13);
            due.is("below 0", x.row(1, sort, -1), -14);
            due.is("below 0", x.row(1, sort, LEAST), -14);
            due.is("too many", x.row(1, sort, 61), -1);
            due.is("too many", x.row(1, sort, MOST), -1);
        }
        due.is("refusals change nothing", x.put(1, 0, 0), -11);
        for (int sort : new int[] {-1, 5, LEAST, MOST}) {
            due.is("sort", x.row(1, sort, 5), -1);
            due.is("BAD goes ahead of -14", x.row(1, sort, -5), -1);
        }
        for (int shelf : new int[] {-1, 6, LEAST, MOST}) {
            due.is("shelf", x.row(shelf, 0, 5), -1);
            due.is("BAD goes ahead of -14", x.row(shelf, 0, -5), -1);
        }
        x.body(0);
        x.keep(2, 0);
        x.row(2, 3, 4);
        due.is("in a stone's place", x.taken(2, 0), -12);
    }

    private static void promise37Put() {
        RoadsThanked x = new RoadsThanked();
        long[] told = {0, 1, -1, 127, 128, 255, 256, 32767, 32768, 65536, 2147483647L, 2147483648L, 4294967296L, 4294967297L, Long.MAX_VALUE, Long.MIN_VALUE + 1};
        for (int sort = 0; sort < 5; sort++) {
            x.row(sort, sort, 2);
            for (long v : told) {
                due.is("put", x.put(sort, 1, v), 1);
                long want = sort == 0 ? (byte) v : sort == 1 ? (short) v : sort == 2 ? (int) v : sort == 3 ? v : v != 0 ? 1 : 0;
                due.is("sort " + sort + ", " + v, x.element(sort, 1), want);
                due.is("the other one stays", x.element(sort, 0), 0);
            }
            for (int i : new int[] {-1, 2, 60, LEAST, MOST}) {
                due.is("a place that is not there", x.put(sort, i, 1), -13);
            }
        }
        due.is("nothing", x.put(5, 0, 1), -11);
        due.is("nothing, at no place", x.put(5, -1, 1), -11);
        x.body(0);
        x.keep(5, 0);
        due.is("a stone", x.put(5, 0, 1), -12);
        due.is("a stone, at no place", x.put(5, 99, 1), -12);
        for (int shelf : new int[] {-1, 6, LEAST, MOST}) {
            due.is("shelf", x.put(shelf, 0, 1), -1);
        }
    }

    private static void promise38Element() {
        RoadsThanked x = new RoadsThanked();
        due.is("nothing", x.element(0, 0), Long.MIN_VALUE);
        Due.row(x, 0, 3, 5, Long.MAX_VALUE, -5);
        due.is("element", x.element(0, 0), 5);
        due.is("element", x.element(0, 1), Long.MAX_VALUE);
        due.is("element", x.element(0, 2), -5);
        for (int i : new int[] {-1, 3, 60, LEAST, MOST}) {
            due.is("a place that is not there", x.element(0, i), Long.MIN_VALUE);
        }
        for (int shelf : new int[] {-1, 6, LEAST, MOST}) {
            due.is("shelf", x.element(shelf, 0), Long.MIN_VALUE);
        }
        x.body(0);
        x.keep(0, 0);
        due.is("a stone", x.element(0, 0), Long.MIN_VALUE);
    }

    private static void holds(String why, RoadsThanked x, int shelf, long... want) {
        for (int i = 0; i < want.length; i++) {
            due.is(why + ", element " + i, x.element(shelf, i), want[i]);
        }
    }

    private static void promise39Shift() {
        RoadsThanked x = new RoadsThanked();
        Due.row(x, 0, 2, 1, 2, 3, 4, 5);
        Due.row(x, 1, 2, 10, 20, 30);
        due.is("shift", x.shift(0, 1, 1, 0, 3), 3);
        holds("to another one", x, 1, 2, 3, 4);
        holds("it stays", x, 0, 1, 2, 3, 4, 5);
        due.is("onward", x.shift(0, 0, 0, 1, 4), 4);
        holds("as they all were before", x, 0, 1, 1, 2, 3, 4);
        due.is("back", x.shift(0, 2, 0, 0, 3), 3);
        holds("as they all were before", x, 0, 2, 3, 4, 3, 4);
        due.is("none", x.shift(0, 5, 1, 3, 0), 0);
        due.is("none", x.shift(0, 0, 1, 0, 0), 0);
        due.is("one", x.shift(1, 2, 0, 4, 1), 1);
        due.is("one", x.shift(0, 0, 0, 0, 5), 5);
        holds("then", x, 0, 2, 3, 4, 3, 4);
        x.row(2, 2, 0);
        due.is("of rows of none", x.shift(2, 0, 2, 0, 0), 0);
        for (int sort = 0; sort < 5; sort++) {
            Due.row(x, 3, sort, 1, 0, 1);
            x.row(4, sort, 3);
            due.is("sort " + sort, x.shift(3, 0, 4, 0, 3), 3);
            holds("sort " + sort, x, 4, 1, 0, 1);
        }
    }

    private static void promise39Refusals() {
        RoadsThanked x = new RoadsThanked();
        x.row(0, 2, 5);
        x.row(1, 2, 3);
        x.row(2, 3, 5);
        x.body(0);
        x.keep(3, 0);
        for (int shelf : new int[] {-1, 6, LEAST, MOST}) {
            due.is("shelf", x.shift(shelf, 0, 0, 0, 1), -1);
            due.is("other", x.shift(0, 0, shelf, 0, 1), -1);
            due.is("BAD goes ahead of -11", x.shift(4, 0, shelf, 0, 1), -1);
        }
        due.is("nothing", x.shift(4, 0, 0, 0, 1), -11);
        due.is("nothing", x.shift(0, 0, 4, 0, 1), -11);
        due.is("-11 goes ahead of -12", x.shift(3, 0, 4, 0, 1), -11);
        due.is("-11 goes ahead of -12", x.shift(4, 0, 3, 0, 1), -11);
        due.is("-11 goes ahead of -13", x.shift(4, -1, 0, 0, 1), -11);
        due.is("a stone", x.shift(3, 0, 0, 0, 1), -12);
        due.is("a stone", x.shift(0, 0, 3, 0, 1), -12);
        due.is("two stones", x.shift(3, 0, 3, 0, 1), -12);
        due.is("of unlike sorts", x.shift(0, 0, 2, 0, 1), -12);
        due.is("-12 goes ahead of -13", x.shift(0, 0, 2, 0, 99), -12);
        due.is("-12 goes ahead of -13", x.shift(0, 0, 3, 0, -1), -12);
        int[][] wrong = {{-1, 0, 1}, {0, -1, 1}, {0, 0, 4}, {3, 0, 3}, {0, 1, 3}, {6, 0, 0}, {0, 4, 0}, {5, 0, 1}, {0, 3, 1}, {0, 0, -1},
            {LEAST, 0, 1}, {0, LEAST, 1}, {MOST, 0, 1}, {0, MOST, 1}, {0, 0, MOST}, {1, 1, MOST}, {MOST, MOST, MOST}, {0, 0, LEAST}, {LEAST, LEAST, LEAST}};
        for (int[] w : wrong) {
            due.is("a place that is not there", x.shift(0, w[0], 1, w[1], w[2]), -13);
        }
    }

    private static void promise40Taken() {
        RoadsThanked x = new RoadsThanked();
        int[][] above = {{0}, {1, 0}, {2, 0}, {3, 2, 0}, {4, 1, 0}, {5, 3, 2, 0}, {6, 0}, {7, 4, 1, 0}};
        for (int kind = 0; kind < 8; kind++) {
            x.body(kind);
            x.keep(0, kind);
            for (int k = 0; k < 8; k++) {
                int want = -12;
                for (int a : above[kind]) {
                    want = a == k ? kind : want;
                }
                due.is("kind " + kind + " taken for " + k, x.taken(0, k), want);
            }
        }
        due.is("nothing", x.taken(1, 0), -11);
        x.row(1, 0, 5);
        due.is("a row", x.taken(1, 0), -12);
        for (int k : new int[] {-1, 8, LEAST, MOST}) {
            due.is("kind", x.taken(0, k), -1);
            due.is("BAD goes ahead of -11", x.taken(2, k), -1);
        }
        for (int shelf : new int[] {-1, 6, LEAST, MOST}) {
            due.is("shelf", x.taken(shelf, 0), -1);
        }
    }

    private static void promise41Count() {
        RoadsThanked x = Due.net(1, 5, 12, 6, 23, 7);
        x.traveller(1);
        x.traveller(1);
        x.feed('l');
        x.feed('-');
        x.feed('m');
        x.feed('-');
        for (int i = 1; i <= 5; i++) {
            x.mend(0, 1, i);
        }
        for (int i = 0; i < 6; i++) {
            x.body(7);
        }
        x.act(0, 3, 1);
        int[] want = {3, 2, 4, 5, 6, 14};
        for (int what = 0; what < 6; what++) {
            due.is("count(" + what + ")", x.count(what), want[what]);
        }
        x.trace(0);
        x.undo();
        due.is("changes", x.count(3), 4);
        x.redo();
        due.is("changes", x.count(3), 5);
        x.body(0);
        due.is("the latest act's", x.count(5), 14);
        x.law();
        due.is("the tape", x.count(2), 0);
        for (int what : new int[] {-1, 6, LEAST, MOST}) {
            due.is("what", x.count(what), -1);
        }
    }
}
