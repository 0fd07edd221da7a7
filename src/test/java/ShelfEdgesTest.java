/** Sentence by sentence, the edges of promises 35 to 41: shelves, rows, their elements, what is shifted and taken, counts. */
final class ShelfEdgesTest {
    private static final int BAD = Due.BAD;
    private static final int LEAST = Due.LEAST, MOST = Due.MOST;
    private static final Due due = new Due("ShelfEdgesTest");

    public static void main(String[] args) {
        shelvesNothingAtFirst();
        keepBad();
        keepNothing();
        keepAStone();
        keepForARow();
        rowBad();
        rowSizeBelow0();
        rowLengths();
        rowNoughtAtFirst();
        rowForAStone();
        putBad();
        putNothingThere();
        putOtherKind();
        putNoSuchPlace();
        putBytes();
        putShorts();
        putInts();
        putLongs();
        putBooleans();
        elementRefused();
        elementLeastLong();
        shiftBad();
        shiftNothingThere();
        shiftOtherKind();
        shiftNoSuchPlace();
        shiftSizeBelow0();
        shiftNone();
        shiftWhole();
        shiftToTheSame();
        shiftAllSorts();
        takenBad();
        takenNothingThere();
        takenOtherKind();
        takenUnder();
        countBad();
        countRoads();
        countTravellers();
        countTape();
        countChanges();
        countBodies();
        countRan();
        due.end();
    }

    private static void shelvesNothingAtFirst() {
        due.sentence("SHELVES 0 .. 5 each hold nothing (at first)");
        RoadsThanked x = new RoadsThanked();
        for (int shelf = 0; shelf < 6; shelf++) {
            due.is("put(" + shelf + ", 0, 1)", x.put(shelf, 0, 1), -11);
            due.is("element(" + shelf + ", 0)", x.element(shelf, 0), Long.MIN_VALUE);
            due.is("taken(" + shelf + ", 0)", x.taken(shelf, 0), -11);
            due.is("judge(" + shelf + ")", x.judge(shelf), -11);
            due.is("row(" + shelf + ", 3, 1)", x.row(shelf, 3, 1), 1);
            due.is("put(" + shelf + ", 0, 10)", x.put(shelf, 0, 10 + shelf), 1);
        }
        for (int shelf = 0; shelf < 6; shelf++) {
            due.is("element(" + shelf + ", 0)", x.element(shelf, 0), 10 + shelf);
        }
    }

    private static void keepBad() {
        due.sentence("keep(): BAD");
        RoadsThanked x = new RoadsThanked();
        due.is("no stones", x.keep(0, 0), BAD);
        x.body(4);
        x.body(5);
        due.each("keep(#, 0)", s -> x.keep(s, 0), BAD, LEAST, -2, -1, 6, 7, MOST);
        due.each("keep(#, -1)", s -> x.keep(s, -1), BAD, LEAST, -2, -1, 6, 7, MOST);
        due.each("keep(0, #)", b -> x.keep(0, b), BAD, LEAST, -3, -2, 2, 3, 49, 50, MOST);
        due.is("nothing is there", x.taken(0, 0), -11);
        due.is("keep(5, 1)", x.keep(5, 1), 1);
        due.is("keep(0, 0)", x.keep(0, 0), 1);
    }

    private static void keepNothing() {
        due.sentence("A SHELF holds nothing (body -1)");
        RoadsThanked x = new RoadsThanked();
        x.body(4);
        due.is("keep(2, -1), nothing there", x.keep(2, -1), 1);
        due.is("taken(2, 0)", x.taken(2, 0), -11);
        x.keep(2, 0);
        due.is("keep(2, -1), a stone there", x.keep(2, -1), 1);
        due.is("taken(2, 0)", x.taken(2, 0), -11);
        x.row(2, 0, 5);
        due.is("keep(2, -1), a row there", x.keep(2, -1), 1);
        due.is("put(2, 0, 1)", x.put(2, 0, 1), -11);
        due.is("shift(2, 0, 2, 0, 0)", x.shift(2, 0, 2, 0, 0), -11);
    }

    private static void keepAStone() {
        due.sentence("A SHELF holds a STONE: 1");
        RoadsThanked x = new RoadsThanked();
        for (int i = 0; i < 50; i++) {
            x.body(i % 8);
        }
        for (int shelf = 0; shelf < 6; shelf++) {
            due.is("keep(" + shelf + ", " + (49 - shelf) + ")", x.keep(shelf, 49 - shelf), 1);
        }
        for (int shelf = 0; shelf < 6; shelf++) {
            due.is("taken(" + shelf + ", 0)", x.taken(shelf, 0), (49 - shelf) % 8);
        }
        due.is("keep(0, 0)", x.keep(0, 0), 1);
        due.is("taken(0, 0)", x.taken(0, 0), 0);
    }

    private static void keepForARow() {
        due.sentence("A SHELF holds nothing, a STONE, or a ROW: a STONE where a ROW was");
        RoadsThanked x = new RoadsThanked();
        x.body(6);
        Due.row(x, 0, 0, 1, 2, 3);
        x.keep(0, 0);
        due.is("put(0, 0, 1)", x.put(0, 0, 1), -12);
        due.is("element(0, 0)", x.element(0, 0), Long.MIN_VALUE);
        due.is("roads(0, 0, 1)", x.roads(0, 0, 1), -12);
        due.is("judge(0)", x.judge(0), -12);
        due.is("trip(0, 0, 0)", x.trip(0, 0, 0), Due.VOID);
        due.is("taken(0, 6)", x.taken(0, 6), 6);
    }

    private static void rowBad() {
        due.sentence("row(): BAD (sort, n above 60)");
        RoadsThanked x = new RoadsThanked();
        for (int sort = 0; sort <= 4; sort++) {
            int s = sort;
            due.each("row(0, " + s + ", #)", n -> x.row(0, s, n), BAD, 61, 62, 127, 256, 1 << 16, MOST);
        }
        due.each("row(0, #, 5)", s -> x.row(0, s, 5), BAD, LEAST, -2, -1, 5, 6, MOST);
        due.each("row(#, 0, 5)", s -> x.row(s, 0, 5), BAD, LEAST, -2, -1, 6, 7, MOST);
        due.each("row(0, #, -1), ahead of -14", s -> x.row(0, s, -1), BAD, LEAST, -1, 5, MOST);
        due.each("row(#, 0, -1), ahead of -14", s -> x.row(s, 0, -1), BAD, LEAST, -1, 6, MOST);
        due.is("nothing is there", x.put(0, 0, 1), -11);
    }

    private static void rowSizeBelow0() {
        due.sentence("-14 a size below 0");
        RoadsThanked x = new RoadsThanked();
        for (int sort = 0; sort <= 4; sort++) {
            int s = sort;
            due.each("row(5, " + s + ", #)", n -> x.row(5, s, n), -14, LEAST, LEAST + 1, -61, -2, -1);
        }
        due.is("nothing is there", x.put(5, 0, 1), -11);
        x.row(5, 2, 1);
        due.is("row(5, 2, -1)", x.row(5, 2, -1), -14);
        due.is("the row that was is there", x.put(5, 0, 1), 1);
    }

    private static void rowLengths() {
        due.sentence("of 0 .. 60 elements");
        RoadsThanked x = new RoadsThanked();
        for (int n : new int[] {0, 1, 2, 59, 60}) {
            for (int sort = 0; sort <= 4; sort++) {
                due.is("row(3, " + sort + ", " + n + ")", x.row(3, sort, n), 1);
                due.is("its last element of " + n, x.put(3, n - 1, 1), n == 0 ? -13 : 1);
                due.is("behind it of " + n, x.put(3, n, 1), -13);
                due.is("at 0 of " + n, x.element(3, 0), n == 0 ? Long.MIN_VALUE : n == 1 ? 1 : 0);
            }
        }
    }

    private static void rowNoughtAtFirst() {
        due.sentence("0 at first (false)");
        RoadsThanked x = new RoadsThanked();
        for (int sort = 0; sort <= 4; sort++) {
            x.row(0, sort, 20);
            for (int i = 0; i < 20; i++) {
                due.is("element(0, " + i + ")", x.element(0, i), 0);
                x.put(0, i, 1);
            }
            x.row(0, sort, 20);
            for (int i = 0; i < 20; i++) {
                due.is("of a new one, element(0, " + i + ")", x.element(0, i), 0);
            }
        }
        Due.row(x, 1, 3, 7, 7, 7);
        x.keep(1, -1);
        x.row(1, 3, 60);
        due.is("behind nothing", x.element(1, 0) + x.element(1, 2) + x.element(1, 59), 0);
    }

    private static void rowForAStone() {
        due.sentence("A SHELF holds nothing, a STONE, or a ROW: a ROW where a STONE was");
        RoadsThanked x = new RoadsThanked();
        x.body(6);
        x.keep(0, 0);
        due.is("row(0, 1, 2)", x.row(0, 1, 2), 1);
        due.is("taken(0, 0)", x.taken(0, 0), -12);
        due.is("put(0, 1, 5)", x.put(0, 1, 5), 1);
        due.is("judge(0)", x.judge(0), 0);
        due.is("another sort", x.row(0, 0, 2), 1);
        due.is("judge(0)", x.judge(0), -12);
        due.is("element(0, 1)", x.element(0, 1), 0);
    }

    private static void putBad() {
        due.sentence("put(): BAD");
        RoadsThanked x = new RoadsThanked();
        for (int s = 0; s < 6; s++) {
            x.row(s, 3, 2);
        }
        due.each("put(#, 0, 5)", s -> x.put(s, 0, 5), BAD, LEAST, -2, -1, 6, 7, MOST);
        due.each("put(#, 9, 5)", s -> x.put(s, 9, 5), BAD, -1, 6);
        due.each("put(#, 1, 5)", s -> x.put(s, 1, 5), 1, 0, 5);
        due.is("element(0, 0)", x.element(0, 0), 0);
    }

    private static void putNothingThere() {
        due.sentence("-11 nothing is there where something is wanted: put()");
        RoadsThanked x = new RoadsThanked();
        due.each("put(0, #, 5)", i -> x.put(0, i, 5), -11, LEAST, -1, 0, 1, 60, MOST);
    }

    private static void putOtherKind() {
        due.sentence("-12 it is of another kind: put()");
        RoadsThanked x = new RoadsThanked();
        x.body(0);
        x.keep(0, 0);
        due.each("put(0, #, 5)", i -> x.put(0, i, 5), -12, LEAST, -1, 0, 1, 60, MOST);
    }

    private static void putNoSuchPlace() {
        due.sentence("-13 a place that is not there: put()");
        RoadsThanked x = new RoadsThanked();
        for (int sort = 0; sort <= 4; sort++) {
            x.row(0, sort, 3);
            due.each("put(0, #, 5)", i -> x.put(0, i, 5), -13, LEAST, -3, -1, 3, 4, 59, 60, MOST);
            due.is("element(0, 0)", x.element(0, 0), 0);
            due.is("element(0, 2)", x.element(0, 2), 0);
            x.row(0, sort, 60);
            due.each("put(0, #, 5)", i -> x.put(0, i, 5), -13, -1, 60, 61);
            x.row(0, sort, 0);
            due.each("put(0, #, 5)", i -> x.put(0, i, 5), -13, -1, 0, 1);
        }
    }

    private static void puts(int sort, long v, long want) {
        RoadsThanked x = new RoadsThanked();
        x.row(0, sort, 3);
        due.is("put(0, 1, " + v + ")", x.put(0, 1, v), 1);
        due.is("element(0, 1) of sort " + sort + " behind " + v, x.element(0, 1), want);
        due.is("those beside stay", x.element(0, 0) + x.element(0, 2), 0);
    }

    private static void putBytes() {
        due.sentence("what is put in keeps its lowest bits: 0 bytes");
        long[] told = {0, 1, -1, 126, 127, 128, 129, 255, 256, 257, -127, -128, -129, -256, 0x7fffffffL, 0x80000000L, 0x100000000L, Long.MAX_VALUE, Long.MIN_VALUE, 0x1234567890abcdefL};
        long[] want = {0, 1, -1, 126, 127, -128, -127, -1, 0, 1, -127, -128, 127, 0, -1, 0, 0, -1, 0, (byte) 0xef};
        for (int i = 0; i < told.length; i++) {
            puts(0, told[i], want[i]);
        }
    }

    private static void putShorts() {
        due.sentence("what is put in keeps its lowest bits: 1 shorts");
        long[] told = {0, 1, -1, 255, 256, 32766, 32767, 32768, 32769, 65535, 65536, 65537, -32768, -32769, -65536, 0x80000000L, Long.MAX_VALUE, Long.MIN_VALUE, 0x1234567890abcdefL};
        long[] want = {0, 1, -1, 255, 256, 32766, 32767, -32768, -32767, -1, 0, 1, -32768, 32767, 0, 0, -1, 0, (short) 0xcdef};
        for (int i = 0; i < told.length; i++) {
            puts(1, told[i], want[i]);
        }
    }

    private static void putInts() {
        due.sentence("what is put in keeps its lowest bits: 2 ints");
        long[] told = {0, 1, -1, 65536, MOST, MOST + 1L, MOST + 2L, LEAST, LEAST - 1L, 0xffffffffL, 0x100000000L, 0x100000001L, Long.MAX_VALUE, Long.MIN_VALUE, 0x1234567890abcdefL};
        long[] want = {0, 1, -1, 65536, MOST, LEAST, LEAST + 1L, LEAST, MOST, -1, 0, 1, -1, 0, 0x90abcdef};
        for (int i = 0; i < told.length; i++) {
            puts(2, told[i], want[i]);
        }
    }

    private static void putLongs() {
        due.sentence("what is put in keeps its lowest bits: 3 longs");
        for (long v : new long[] {0, 1, -1, MOST + 1L, LEAST - 1L, 0x100000000L, Long.MAX_VALUE, Long.MIN_VALUE, Long.MIN_VALUE + 1, 0x1234567890abcdefL}) {
            puts(3, v, v);
        }
    }

    private static void putBooleans() {
        due.sentence("(a boolean: whether it is not 0; 1 or 0)");
        for (long v : new long[] {1, -1, 2, 256, 65536, 0x100000000L, 1L << 63, Long.MAX_VALUE}) {
            puts(4, v, 1);
        }
        puts(4, 0, 0);
        RoadsThanked x = new RoadsThanked();
        Due.row(x, 0, 4, 5);
        x.put(0, 0, 0);
        due.is("0 again", x.element(0, 0), 0);
    }

    private static void elementRefused() {
        due.sentence("Long.MIN_VALUE: BAD, -11 to -13");
        RoadsThanked x = new RoadsThanked();
        x.body(0);
        x.keep(1, 0);
        Due.row(x, 2, 3, 5, 6);
        Due.row(x, 5, 0, 7);
        x.row(3, 2, 0);
        due.each("element(#, 0)", s -> x.element(s, 0), Long.MIN_VALUE, LEAST, -1, 6, MOST);
        due.each("element(0, #)", i -> x.element(0, i), Long.MIN_VALUE, LEAST, -1, 0, 60, MOST);
        due.each("element(1, #)", i -> x.element(1, i), Long.MIN_VALUE, LEAST, -1, 0, 60, MOST);
        due.each("element(2, #)", i -> x.element(2, i), Long.MIN_VALUE, LEAST, -1, 2, 3, 59, 60, MOST);
        due.each("element(3, #)", i -> x.element(3, i), Long.MIN_VALUE, -1, 0, 1);
        due.is("element(2, 1)", x.element(2, 1), 6);
        due.is("element(5, 0)", x.element(5, 0), 7);
    }

    private static void elementLeastLong() {
        due.sentence("Element i of a ROW");
        RoadsThanked x = new RoadsThanked();
        x.row(0, 3, 60);
        for (int i = 0; i < 60; i++) {
            x.put(0, i, 1L << i);
        }
        for (int i = 0; i < 60; i++) {
            due.is("element(0, " + i + ")", x.element(0, i), 1L << i);
        }
        x.put(0, 0, Long.MIN_VALUE);
        due.is("the least long", x.element(0, 0), Long.MIN_VALUE);
    }

    private static void shiftBad() {
        due.sentence("shift(): BAD");
        RoadsThanked x = new RoadsThanked();
        x.row(0, 2, 3);
        x.row(5, 2, 3);
        due.each("shift(#, 0, 0, 0, 1)", s -> x.shift(s, 0, 0, 0, 1), BAD, LEAST, -1, 6, MOST);
        due.each("shift(0, 0, #, 0, 1)", s -> x.shift(0, 0, s, 0, 1), BAD, LEAST, -1, 6, MOST);
        due.each("shift(1, 0, #, 0, 1), ahead of -11", s -> x.shift(1, 0, s, 0, 1), BAD, -1, 6);
        due.each("shift(#, 0, 1, 0, 1), ahead of -11", s -> x.shift(s, 0, 1, 0, 1), BAD, -1, 6);
        due.each("shift(#, 9, 0, 0, 1), ahead of -13", s -> x.shift(s, 9, 0, 0, 1), BAD, -1, 6);
        due.is("shift(0, 0, 5, 0, 1)", x.shift(0, 0, 5, 0, 1), 1);
        due.is("shift(5, 0, 0, 0, 1)", x.shift(5, 0, 0, 0, 1), 1);
    }

    private static void shiftNothingThere() {
        due.sentence("shift(): -11 (either)");
        RoadsThanked x = new RoadsThanked();
        x.row(0, 2, 3);
        x.body(0);
        x.keep(2, 0);
        due.is("from nothing", x.shift(1, 0, 0, 0, 1), -11);
        due.is("to nothing", x.shift(0, 0, 1, 0, 1), -11);
        due.is("nothing to itself", x.shift(1, 0, 1, 0, 0), -11);
        due.is("from a stone, ahead of -12", x.shift(2, 0, 1, 0, 1), -11);
        due.is("to a stone, ahead of -12", x.shift(1, 0, 2, 0, 1), -11);
        due.is("ahead of -13", x.shift(1, -1, 0, 9, 1), -11);
        due.is("ahead of -13", x.shift(0, -1, 1, 9, -1), -11);
    }

    private static void shiftOtherKind() {
        due.sentence("shift(): -12 (no ROWS, or of unlike sorts)");
        RoadsThanked x = new RoadsThanked();
        x.body(0);
        x.keep(5, 0);
        for (int s = 0; s <= 4; s++) {
            Due.row(x, s, s, 1, 1, 1);
        }
        for (int s = 0; s <= 4; s++) {
            due.is("from a stone to sort " + s, x.shift(5, 0, s, 0, 1), -12);
            due.is("from sort " + s + " to a stone", x.shift(s, 0, 5, 0, 1), -12);
            for (int o = 0; o <= 4; o++) {
                due.is("from sort " + s + " to " + o, x.shift(s, 0, o, 1, 1), s == o ? 1 : -12);
                due.is("from sort " + s + " to " + o + ", none", x.shift(s, 0, o, 1, 0), s == o ? 0 : -12);
                due.is("ahead of -13", x.shift(s, 3, o, 0, 1), s == o ? -13 : -12);
                due.is("ahead of -13", x.shift(s, 0, o, 0, -1), s == o ? -13 : -12);
            }
        }
        due.is("a stone to itself", x.shift(5, 0, 5, 0, 0), -12);
        due.is("a stone to itself, ahead of -13", x.shift(5, -1, 5, 0, 0), -12);
    }

    private static void shiftNoSuchPlace() {
        due.sentence("shift(): -13");
        RoadsThanked x = new RoadsThanked();
        Due.row(x, 0, 2, 1, 2, 3, 4, 5);
        Due.row(x, 1, 2, 6, 7, 8);
        int[][] wrong = {{-1, 0, 1}, {LEAST, 0, 1}, {5, 0, 1}, {4, 0, 2}, {3, 0, 3}, {6, 0, 0}, {MOST, 0, 1}, {MOST, 0, 0},
            {0, -1, 1}, {0, LEAST, 1}, {0, 3, 1}, {0, 2, 2}, {0, 1, 3}, {0, 4, 0}, {0, MOST, 1}, {0, MOST, 0}, {-1, 0, 0}, {0, -1, 0},
            {0, 0, 4}, {0, 0, 6}, {0, 0, MOST}, {1, 0, MOST}, {0, 1, MOST}, {5, 3, MOST}, {MOST, MOST, MOST}, {-1, -1, 2}};
        for (int[] w : wrong) {
            due.is("shift(0, " + w[0] + ", 1, " + w[1] + ", " + w[2] + ")", x.shift(0, w[0], 1, w[1], w[2]), -13);
        }
        for (int i = 0; i < 3; i++) {
            due.is("element(1, " + i + ") stays", x.element(1, i), 6 + i);
        }
        due.is("from a row of none", noneShifted(1), -13);
        due.is("from a row of none, none", noneShifted(0), 0);
    }

    private static int noneShifted(int n) {
        RoadsThanked x = new RoadsThanked();
        x.row(0, 2, 0);
        x.row(1, 2, 5);
        return x.shift(0, 0, 1, 0, n);
    }

    private static void shiftSizeBelow0() {
        due.sentence("shift(): n below 0 is told by none of BAD, -11, -12: -13");
        RoadsThanked x = new RoadsThanked();
        Due.row(x, 0, 2, 1, 2, 3);
        due.each("shift(0, 1, 0, 0, #)", n -> x.shift(0, 1, 0, 0, n), -13, LEAST, LEAST + 1, -3, -2, -1);
    }

    private static void shiftNone() {
        due.sentence("n elements: 0");
        RoadsThanked x = new RoadsThanked();
        Due.row(x, 0, 2, 1, 2, 3);
        Due.row(x, 1, 2, 4, 5);
        for (int i = 0; i <= 3; i++) {
            for (int j = 0; j <= 2; j++) {
                due.is("shift(0, " + i + ", 1, " + j + ", 0)", x.shift(0, i, 1, j, 0), 0);
            }
        }
        due.is("element(1, 0)", x.element(1, 0), 4);
        due.is("element(1, 1)", x.element(1, 1), 5);
    }

    private static void shiftWhole() {
        due.sentence("from i on come to another one from j on: n");
        RoadsThanked x = new RoadsThanked();
        x.row(0, 3, 60);
        x.row(1, 3, 60);
        for (int i = 0; i < 60; i++) {
            x.put(0, i, 100 + i);
        }
        due.is("all sixty", x.shift(0, 0, 1, 0, 60), 60);
        due.is("the last", x.element(1, 59), 159);
        due.is("the last to the first place", x.shift(0, 59, 1, 0, 1), 1);
        due.is("the first", x.element(1, 0), 159);
        due.is("the second stays", x.element(1, 1), 101);
        due.is("the first to the last place", x.shift(0, 0, 1, 59, 1), 1);
        due.is("the last", x.element(1, 59), 100);
        due.is("the last but one stays", x.element(1, 58), 158);
        due.is("what is shifted stays, too", x.element(0, 59), 159);
    }

    private static void shiftToTheSame() {
        due.sentence("(or the same), as they all were before");
        for (int i = 0; i <= 6; i++) {
            for (int j = 0; j <= 6; j++) {
                RoadsThanked x = new RoadsThanked();
                Due.row(x, 0, 1, 1, 2, 3, 4, 5, 6);
                int n = 6 - Math.max(i, j);
                due.is("shift(0, " + i + ", 0, " + j + ", " + n + ")", x.shift(0, i, 0, j, n), n);
                for (int e = 0; e < 6; e++) {
                    due.is("element(0, " + e + ")", x.element(0, e), e >= j && e < j + n ? 1 + i + e - j : 1 + e);
                }
            }
        }
    }

    private static void shiftAllSorts() {
        due.sentence("elements of a ROW: of each sort");
        long[] told = {-128, -32768, LEAST, Long.MIN_VALUE, 1};
        for (int sort = 0; sort <= 4; sort++) {
            RoadsThanked x = new RoadsThanked();
            Due.row(x, 0, sort, 0, told[sort]);
            x.row(1, sort, 1);
            due.is("shift(0, 1, 1, 0, 1), sort " + sort, x.shift(0, 1, 1, 0, 1), 1);
            due.is("element(1, 0)", x.element(1, 0), told[sort]);
        }
    }

    private static void takenBad() {
        due.sentence("taken(): BAD");
        RoadsThanked x = new RoadsThanked();
        x.body(3);
        x.keep(0, 0);
        x.keep(5, 0);
        x.row(1, 0, 1);
        due.each("taken(#, 0)", s -> x.taken(s, 0), BAD, LEAST, -1, 6, MOST);
        due.each("taken(0, #)", k -> x.taken(0, k), BAD, LEAST, -1, 8, 9, MOST);
        due.each("taken(2, #), ahead of -11", k -> x.taken(2, k), BAD, -1, 8);
        due.each("taken(1, #), ahead of -12", k -> x.taken(1, k), BAD, -1, 8);
        due.is("taken(5, 0)", x.taken(5, 0), 3);
        due.is("taken(0, 7)", x.taken(0, 7), -12);
    }

    private static void takenNothingThere() {
        due.sentence("taken(): -11");
        RoadsThanked x = new RoadsThanked();
        for (int k = 0; k < 8; k++) {
            due.is("taken(0, " + k + ")", x.taken(0, k), -11);
            due.is("taken(5, " + k + ")", x.taken(5, k), -11);
        }
    }

    private static void takenOtherKind() {
        due.sentence("taken(): -12: a ROW");
        RoadsThanked x = new RoadsThanked();
        x.body(0);
        for (int sort = 0; sort <= 4; sort++) {
            x.row(0, sort, sort);
            due.each("taken(0, #), a row of sort " + sort, k -> x.taken(0, k), -12, 0, 1, 2, 3, 4, 5, 6, 7);
        }
    }

    private static void takenUnder() {
        due.sentence("taken for a STONE of KIND k (0 .. 7), or under it: its KIND");
        String[] under = {"0", "1 0", "2 0", "3 2 0", "4 1 0", "5 3 2 0", "6 0", "7 4 1 0"};
        RoadsThanked x = new RoadsThanked();
        for (int kind = 0; kind < 8; kind++) {
            x.body(kind);
            x.keep(4, kind);
            for (int k = 0; k < 8; k++) {
                due.is("kind " + kind + " taken for " + k, x.taken(4, k), under[kind].contains("" + k) ? kind : -12);
            }
        }
    }

    private static void countBad() {
        due.sentence("count(): BAD");
        RoadsThanked x = new RoadsThanked();
        due.each("count(#)", w -> x.count(w), BAD, LEAST, -2, -1, 6, 7, MOST);
        due.each("count(#)", w -> x.count(w), 0, 0, 1, 2, 3, 4, 5);
    }

    private static void countRoads() {
        due.sentence("How many: 0 ROADS");
        RoadsThanked x = new RoadsThanked();
        for (int i = 0; i < 14; i++) {
            due.is("count(0)", x.count(0), Math.min(12, i));
            x.road(1, 5);
        }
        x.mend(0, 3, 1);
        due.is("ploughed up or not", x.count(0), 12);
    }

    private static void countTravellers() {
        due.sentence("How many: 1 TRAVELLERS");
        RoadsThanked x = new RoadsThanked();
        for (int i = 0; i < 6; i++) {
            due.is("count(1)", x.count(1), Math.min(4, i));
            x.traveller(2);
        }
    }

    private static void countTape() {
        due.sentence("How many: 2 bytes on THE TAPE");
        RoadsThanked x = new RoadsThanked();
        for (int i = 0; i < 122; i++) {
            due.is("count(2)", x.count(2), Math.min(120, i));
            x.feed('1');
        }
        x.law();
        due.is("count(2)", x.count(2), 0);
    }

    private static void countChanges() {
        due.sentence("How many: 3 changes that may be UNDONE");
        RoadsThanked x = Due.net(1, 5);
        for (int i = 0; i < 43; i++) {
            due.is("count(3)", x.count(3), Math.min(40, i));
            x.mend(0, 0, 6 + i);
        }
        x.undo();
        due.is("count(3)", x.count(3), 39);
        x.redo();
        due.is("count(3)", x.count(3), 40);
    }

    private static void countBodies() {
        due.sentence("How many: 4 BODIES");
        RoadsThanked x = new RoadsThanked();
        for (int i = 0; i < 52; i++) {
            due.is("count(4)", x.count(4), Math.min(50, i));
            x.body(3);
        }
    }

    private static void countRan() {
        due.sentence("How many: 5 bodies that ran in the latest act()");
        RoadsThanked x = new RoadsThanked();
        x.body(0);
        x.body(7);
        x.act(1, 3, 1);
        due.is("count(5)", x.count(5), 14);
        x.act(0, 3, 1);
        due.is("count(5)", x.count(5), 4);
        x.act(2, 0, 1);
        due.is("count(5)", x.count(5), 0);
    }
}
