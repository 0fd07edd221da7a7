/** Promises 21 to 24: Sundays judged and read back, two who do deeds by turns, years by draws. */
final class SundaysTest {
    private static final int VOID = -2000000000;
    private static final int LEAST = Integer.MIN_VALUE, MOST = Integer.MAX_VALUE;
    private static final Due due = new Due("SundaysTest");

    public static void main(String[] args) {
        promise21Judge();
        promise22ByOne();
        promise22ByTwo();
        promise22Refusals();
        promise23ByTurns();
        promise24Drawn();
        due.end();
    }

    private static void promise21Judge() {
        RoadsThanked x = Due.net(1, 10, 12, 20);
        for (int shelf : new int[] {-1, 6, LEAST, MOST}) {
            due.is("shelf", x.judge(shelf), -1);
        }
        due.is("nothing", x.judge(0), -11);
        for (int sort : new int[] {0, 2, 3, 4}) {
            x.row(0, sort, 2);
            due.is("of another sort", x.judge(0), -12);
        }
        x.body(0);
        x.keep(0, 0);
        due.is("a stone", x.judge(0), -12);
        Due.row(x, 0, 1);
        due.is("no lengths", x.judge(0), -2);
        Due.row(x, 0, 1, 10);
        due.is("fewer than roads", x.judge(0), -2);
        Due.row(x, 0, 1, 10, 20);
        due.is("all is so", x.judge(0), -2);
        Due.row(x, 0, 1, 11, 20);
        due.is("the first", x.judge(0), 0);
        Due.row(x, 0, 1, 10, 19);
        due.is("the second", x.judge(0), 1);
        Due.row(x, 0, 1, 10, 20, 1, 1);
        due.is("of a road that is not there", x.judge(0), 2);
        Due.row(x, 0, 1, 10, 20, 0);
        due.is("of a road that is not there, 0", x.judge(0), 2);
        Due.row(x, 0, 1, 10 + 65536, 20);
        due.is("shorts keep their lowest bits", x.judge(0), -2);
        x.mend(1, 3, 1);
        due.is("ploughed up or not", x.judge(0), -2);
        x.mend(1, 1, 2);
        due.is("by moods now", x.judge(0), 1);
        x.mend(1, 3, 0);
        Due.law(x, "l+k");
        Due.row(x, 0, 1, 11, 21);
        due.is("by neighbours", x.judge(0), -2);
    }

    private static void one(String why, RoadsThanked x, int many, int least) {
        due.is(why + ": how many", x.sunday(0, 0), many);
        due.is(why + ": the least", x.sunday(0, 1), least);
    }

    private static void promise22ByOne() {
        RoadsThanked x = Due.net(1, 10, 12, 20, 23, 30);
        x.mend(1, 2, 0);
        Due.row(x, 0, 1, 10, 20, 30);
        one("as now", x, 1, -1);
        Due.row(x, 0, 1, 9, 21, 30);
        one("thanks to 0", x, 1, 1);
        Due.row(x, 0, 1, 12, 20);
        one("a slight of 0", x, 1, 2);
        Due.row(x, 0, 1, 10, 19);
        one("thanks to 1", x, 1, 4);
        Due.row(x, 0, 1, 10, 22);
        one("a slight of 1", x, 1, 5);
        Due.row(x, 0, 1, 10, 20, 29);
        one("thanks to 2", x, 1, 7);
        Due.row(x, 0, 1, 10, 20, 32);
        one("a slight of 2", x, 1, 8);
        Due.row(x, 0, 1, 10, 20, 33);
        one("none", x, 0, -9);
        Due.row(x, 0, 1, 10, 20);
        one("none, or either deed to 2", x, 3, -1);
        Due.row(x, 0, 1);
        one("all", x, 7, -1);
        Due.row(x, 0, 1, 10, 20, 30, 40);
        one("a road that is not there", x, 0, -9);
        x.mend(2, 1, 9);
        Due.row(x, 0, 1, 10, 20, 21);
        one("none, or thanks that are held", x, 2, -1);
        x.mend(2, 1, -9);
        Due.row(x, 0, 1, 10, 20, 39);
        one("none, or a slight that is held", x, 2, -1);
        x.mend(2, 3, 1);
        Due.row(x, 0, 1, 10, 20, 38);
        one("one that is ploughed up", x, 1, 7);
        due.is("in thought", x.of(2, 1), -9);
        RoadsThanked y = Due.net(1, 10, 12, 20);
        y.mend(1, 2, 0);
        Due.law(y, "l+k+10*j");
        Due.row(y, 0, 1, 11, 31);
        one("by k and j", y, 1, 1);
        Due.row(y, 0, 1, 11, 41);
        due.is("by k and j, by two", y.sunday(0, 2), 1);
        Due.row(y, 0, 1, 11, 21);
        one("by k and j: none, or a deed to 1", y, 3, -1);
        Due.law(y, "l+k-m");
        one("another law: none", y, 1, -1);
        RoadsThanked none = new RoadsThanked();
        none.row(0, 1, 0);
        one("no roads", none, 1, -1);
        due.is("no roads, by two", none.sunday(0, 2), 0);
    }

    private static void promise22ByTwo() {
        RoadsThanked x = Due.net(1, 10, 12, 20, 23, 30);
        Due.row(x, 0, 1, 10, 20, 30);
        due.is("thanks and slights never make up for each other in two", x.sunday(0, 2), 0);
        Due.row(x, 0, 1, 9, 19);
        due.is("0 and 1, 1 and 0", x.sunday(0, 2), 2);
        Due.row(x, 0, 1, 8, 20, 30);
        due.is("0 and 0", x.sunday(0, 2), 1);
        Due.row(x, 0, 1, 11, 20, 30);
        due.is("thanks and a slight, both ways round", x.sunday(0, 2), 2);
        Due.row(x, 0, 1, 10, 20);
        due.is("both to 2: 4", x.sunday(0, 2), 4);
        Due.row(x, 0, 1);
        due.is("all: 36", x.sunday(0, 2), 36);
        Due.row(x, 0, 1, 10, 20, 30, 1);
        due.is("a road that is not there", x.sunday(0, 2), 0);
        // At 9 the order counts: thanks are held, then a slight: 7; the other way round: 8.
        x.mend(0, 1, 9);
        Due.row(x, 0, 1, 3, 20, 30);
        due.is("thanks, then a slight", x.sunday(0, 2), 1);
        Due.row(x, 0, 1, 2, 20, 30);
        due.is("a slight, then thanks", x.sunday(0, 2), 1);
        Due.row(x, 0, 1, 1, 20, 30);
        due.is("thanks, and thanks", x.sunday(0, 2), 1);
        Due.row(x, 0, 1, 1, 19, 30);
        due.is("thanks that are held are deeds, too", x.sunday(0, 2), 2);
        Due.row(x, 0, 1, 1, 20, 30);
        x.mend(1, 2, 0);
        due.is("with a jealous one", x.sunday(0, 2), 2);
    }

    private static void promise22Refusals() {
        RoadsThanked x = Due.net(1, 10);
        for (int what = 0; what <= 2; what++) {
            due.is("shelf", x.sunday(-1, what), -1);
            due.is("shelf", x.sunday(6, what), -1);
            due.is("nothing", x.sunday(0, what), -11);
            x.row(1, 0, 1);
            due.is("of another sort", x.sunday(1, what), -12);
        }
        x.body(3);
        x.keep(2, 0);
        due.is("a stone", x.sunday(2, 0), -12);
        for (int what : new int[] {-1, 3, LEAST, MOST}) {
            due.is("what", x.sunday(0, what), -1);
            due.is("what", x.sunday(1, what), -1);
        }
    }

    private static void turns(String why, RoadsThanked x, int ft, int n, int hours, int deed) {
        due.is(why + ": hours", x.byTurns(ft, n, 0), hours);
        due.is(why + ": the deed", x.byTurns(ft, n, 1), deed);
    }

    private static void promise23ByTurns() {
        RoadsThanked x = Due.net(1, 10, 12, 20, 23, 30);
        turns("one", x, 2, 1, 29, 1);
        turns("one, the other way", x, 20, 1, 29, 1);
        turns("two: the other one slights", x, 2, 2, 31, 1);
        turns("no way", x, 7, 1, 999, 99);
        turns("no way", x, 7, 2, 999, 99);
        x.mend(0, 1, 9);
        turns("0 is held, so 1", x, 2, 1, 20, 4);
        turns("two", x, 2, 2, 22, 4);
        x.mend(1, 1, 9);
        turns("both are held: none", x, 2, 1, 12, 99);
        x.mend(1, 2, 0);
        turns("thanks to 0 only anger", x, 2, 1, 12, 99);
        turns("two, none first", x, 2, 2, 14, 99);
        due.is("in thought", x.of(0, 1), 9);
        // Where ill moods are liked, slights help the first one and thanks the other.
        RoadsThanked y = Due.net(1, 50, 12, 20);
        Due.law(y, "l+m");
        turns("a slight helps", y, 1, 1, 48, 2);
        turns("two: a slight, then thanks", y, 1, 2, 49, 2);
        turns("of like ones the least", y, 2, 1, 68, 2);
        // The other one angers the road, too: 0 is jealous of 1.
        RoadsThanked z = Due.net(1, 50, 67, 20);
        z.mend(0, 2, 1);
        turns("thanks", z, 1, 1, 49, 1);
        turns("then a slight", z, 1, 2, 51, 1);
        z.mend(0, 1, 9);
        turns("nothing to better: none", z, 1, 2, 43, 99);
        // A second way bounds what the other one can do.
        RoadsThanked two = Due.net(1, 10, 1, 11);
        turns("thanks to 1: one of them stays at 10", two, 1, 2, 10, 4);
        turns("one", two, 1, 1, 9, 1);
        // Any deed would shorten it, so that the other one does none.
        RoadsThanked odd = Due.net(1, 50);
        Due.law(odd, "l-m*m");
        turns("none may be the best answer", odd, 1, 2, 49, 1);
        turns("one", odd, 1, 1, 46, 2);
        RoadsThanked full = Due.fullNet();
        turns("twelve", full, 1, 2, 10, 4);
        full.mend(11, 0, 9);
        turns("the last of twelve", full, 1, 1, 8, 34);
        RoadsThanked none = new RoadsThanked();
        turns("no roads", none, 1, 2, 999, 99);
        for (int ft : new int[] {0, 77, -1, 8, 80, 100, LEAST, MOST}) {
            due.is("ft", x.byTurns(ft, 1, 0), -1);
        }
        for (int n : new int[] {0, 3, -1, LEAST, MOST}) {
            due.is("n", x.byTurns(2, n, 0), -1);
        }
        for (int what : new int[] {-1, 2, LEAST, MOST}) {
            due.is("what", x.byTurns(2, 1, what), -1);
        }
    }

    /** Years of one road, where the draws tell only thanks or slights. */
    private static int moodsOfOne(int seed, int years, int days, int manners) {
        int z = seed;
        int sum = 0;
        for (int year = 0; year < years; year++) {
            int mood = 0;
            for (int day = 0; day < days; day++) {
                z = z * 1103515245 + 12345;
                mood = (z >>> 16) % 12 < manners ? Math.min(9, mood + 1) : Math.max(-9, mood - 2);
            }
            sum += mood;
        }
        return sum;
    }

    private static void promise24Drawn() {
        RoadsThanked x = new RoadsThanked();
        due.is("no roads", x.drawn(1, 10100, -1), 0);
        due.is("no such road", x.drawn(1, 10100, 0), VOID);
        x.road(1, 50);
        for (int seed : new int[] {0, 1, -1, 77, LEAST, MOST}) {
            for (int nmm : new int[] {10100, 10112, 304012, 304000, 304006, 20307, 51103}) {
                int years = nmm / 10000;
                int moods = moodsOfOne(seed, years, nmm / 100 % 100, nmm % 100);
                due.is("drawn(" + seed + ", " + nmm + ", 0)", x.drawn(seed, nmm, 0), moods);
                due.is("drawn(" + seed + ", " + nmm + ", -1)", x.drawn(seed, nmm, -1), 50 * years - moods);
            }
        }
        due.is("manners 12: each day thanks, each year from now", x.drawn(3, 30512, 0), 15);
        due.is("manners 0: each day a slight", x.drawn(3, 30200, 0), -12);
        x.mend(0, 1, 2);
        due.is("from moods now", x.drawn(3, 30512, 0), 21);
        due.is("in thought", x.of(0, 1), 2);
        x.road(12, 20);
        int z = -1103515245 + 12345;
        int road = (z >>> 8) % 2;
        due.is("which road", x.drawn(-1, 10112, road), (road == 0 ? 2 : 0) + 1);
        due.is("the other one", x.drawn(-1, 10112, 1 - road), road == 0 ? 0 : 2);
        due.is("neighbours, first", Due.law(x, "l+k"), 1);
        due.is("neighbours", x.drawn(5, 10512, -1), 51 + 21);
        due.is("the law, first", Due.law(x, "l"), 1);
        due.is("the law", x.drawn(5, 20512, -1), 140);
        for (int nmm : new int[] {0, 100, 10000, 14100, 14012 + 1, 310100, 10113, 10199, 9999, -10100, -1, LEAST, MOST}) {
            due.is("drawn, nmm " + nmm, x.drawn(1, nmm, -1), VOID);
        }
        for (int told : new int[] {-2, 2, LEAST, MOST}) {
            due.is("drawn, road " + told, x.drawn(1, 10100, told), VOID);
        }
    }
}
