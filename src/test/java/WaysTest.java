/** Promises 9 to 15: hours, ways, reach, roads one needs, trips and rounds. */
final class WaysTest {
    private static final int VOID = -2000000000;
    private static final int LEAST = Integer.MIN_VALUE, MOST = Integer.MAX_VALUE;
    private static final Due due = new Due("WaysTest");

    public static void main(String[] args) {
        promise9Hours();
        promise10Way();
        promise10Ties();
        promise11Reach();
        promise12Needed();
        promise13Longer();
        promise14Trip();
        promise14Ends();
        promise15Round();
        due.end();
    }

    private static void promise9Hours() {
        RoadsThanked x = Due.net(1, 5, 12, 99);
        due.is("hours", x.hours(0), 5);
        due.is("together", x.hours(-1), 104);
        x.mend(0, 1, 4);
        due.is("l less m", x.hours(0), 1);
        x.mend(0, 1, 5);
        due.is("1 at least", x.hours(0), 1);
        x.mend(0, 1, 9);
        due.is("1 at least", x.hours(0), 1);
        x.mend(1, 1, -1);
        due.is("99 at most", x.hours(1), 99);
        x.mend(1, 1, 1);
        due.is("98", x.hours(1), 98);
        x.mend(1, 3, 1);
        due.is("of one that is ploughed up", x.hours(1), 98);
        due.is("together, of all", x.hours(-1), 99);
        for (int road : new int[] {-2, 2, 12, LEAST, MOST}) {
            due.is("hours(" + road + ")", x.hours(road), -1);
        }
        due.is("in thought, nothing changes", x.of(0, 1), 9);
    }

    private static void promise10Way() {
        RoadsThanked x = Due.net(1, 10, 12, 10, 2, 25, 34, 5);
        due.is("hours", x.way(2, -1), 20);
        due.is("roads", x.way(2, -2), 2);
        due.is("first", x.way(2, 0), 0);
        due.is("second", x.way(2, 1), 1);
        due.is("not as many", x.way(2, 2), -2);
        due.is("not as many", x.way(2, MOST), -2);
        due.is("back again, first", x.way(20, 0), 1);
        due.is("back again, second", x.way(20, 1), 0);
        x.mend(1, 1, -6);
        due.is("by moods", x.way(2, -1), 25);
        due.is("by moods", x.way(2, 0), 2);
        due.is("by moods", x.way(2, -2), 1);
        x.mend(2, 3, 1);
        due.is("not along what is ploughed up", x.way(2, -1), 26);
        x.mend(0, 3, 1);
        for (int k = -2; k < 3; k++) {
            due.is("none", x.way(2, k), -2);
        }
        due.is("none to another part", x.way(3, -1), -2);
        due.is("there", x.way(43, -1), 5);
        for (int ft : new int[] {0, 33, -1, 8, 80, 88, 100, LEAST, MOST}) {
            due.is("way(" + ft + ", -1)", x.way(ft, -1), -1);
        }
        due.is("k -3", x.way(2, -3), -1);
        due.is("BAD goes ahead of NOT", x.way(3, LEAST), -1);
        RoadsThanked all = Due.net(1, 99, 12, 99, 23, 99, 34, 99, 45, 99, 56, 99, 67, 99);
        due.is("the longest", all.way(7, -1), 693);
        due.is("the longest", all.way(70, -2), 7);
        due.is("the longest", all.way(70, 6), 0);
        due.is("the longest", all.way(70, 7), -2);
        RoadsThanked full = Due.fullNet();
        due.is("of twelve", full.way(1, -1), 10);
        full.mend(11, 1, 9);
        full.mend(11, 0, 12);
        due.is("of twelve, the last", full.way(1, 0), 11);
    }

    private static void promise10Ties() {
        // 1 + 5, 5 + 1 and 2 + 2 + 2 are alike: the least number that is still shortest, road by road.
        RoadsThanked x = Due.net(32, 5, 3, 1, 1, 2, 12, 4, 2, 6, 14, 2, 24, 2);
        due.is("hours", x.way(2, -1), 6);
        due.is("first", x.way(2, 0), 1);
        due.is("second", x.way(2, 1), 0);
        due.is("from the other end", x.way(20, 0), 0);
        x.mend(0, 0, 6);
        due.is("then", x.way(2, 0), 2);
        due.is("then", x.way(2, 1), 3);
        due.is("then", x.way(2, -2), 2);
        x.mend(3, 0, 5);
        due.is("the one more by three", x.way(2, 0), 2);
        due.is("the one more by three", x.way(2, 1), 5);
        due.is("the one more by three", x.way(2, 2), 6);
        due.is("the one more by three", x.way(2, -2), 3);
        x.mend(2, 0, 3);
        due.is("at last", x.way(2, 0), 4);
        RoadsThanked like = Due.net(1, 9, 1, 4, 1, 4);
        due.is("of like roads the least", like.way(1, 0), 1);
        due.is("of like roads the least", like.way(10, 0), 1);
    }

    private static void promise11Reach() {
        RoadsThanked x = Due.net(1, 10, 12, 20, 23, 5, 14, 25, 56, 7);
        due.is("itself", x.reach(0, 0, 0), 1);
        due.is("just not", x.reach(0, 9, 0), 1);
        due.is("just", x.reach(0, 10, 0), 3);
        due.is("just", x.reach(0, 30, 0), 7);
        due.is("all", x.reach(0, 35, 0), 31);
        due.is("all", x.reach(0, 999, 0), 31);
        due.is("the farthest, of like ones the least", x.reach(0, 0, 1), 3);
        due.is("its hours", x.reach(0, 0, 2), 35);
        due.is("the farthest", x.reach(3, 0, 1), 4);
        due.is("its hours", x.reach(3, 0, 2), 50);
        due.is("another part", x.reach(6, 999, 0), 96);
        due.is("another part", x.reach(6, 999, 1), 5);
        due.is("place 0 is the farthest", x.reach(2, 0, 1), 4);
        x.mend(3, 3, 1);
        due.is("place 0 is the farthest", x.reach(3, 0, 1), 0);
        due.is("its hours", x.reach(3, 0, 2), 35);
        x.mend(3, 3, 0);
        due.is("by itself", x.reach(7, 5, 1), 7);
        due.is("by itself", x.reach(7, 5, 2), 0);
        x.mend(0, 3, 1);
        due.is("ploughed up", x.reach(0, 999, 0), 1);
        for (int place : new int[] {-1, 8, LEAST, MOST}) {
            due.is("place", x.reach(place, 0, 0), -1);
        }
        for (int t : new int[] {-1, 1000, LEAST, MOST}) {
            due.is("t", x.reach(0, t, 0), -1);
            due.is("t", x.reach(0, t, 1), -1);
        }
        for (int what : new int[] {-1, 3, LEAST, MOST}) {
            due.is("what", x.reach(0, 0, what), -1);
        }
    }

    private static void promise12Needed() {
        RoadsThanked x = Due.net(1, 10, 12, 20, 2, 5, 23, 5, 34, 5, 34, 9, 56, 7);
        due.is("a ring", x.needed(1), 0);
        due.is("behind a ring", x.needed(3), 8);
        due.is("behind two like ones", x.needed(4), 8);
        x.mend(5, 3, 1);
        due.is("one of them is ploughed up", x.needed(4), 24);
        due.is("backwards", x.needed(40), 24);
        x.mend(1, 3, 1);
        due.is("from a ring", x.needed(4), 28);
        due.is("not those beside", x.needed(2), 4);
        due.is("no way now", x.needed(5), 0);
        due.is("another part", x.needed(65), 64);
        RoadsThanked first = Due.net(1, 5);
        due.is("road 0", first.needed(10), 1);
        RoadsThanked full = Due.fullNet();
        due.is("none of twelve", full.needed(1), 0);
        for (int r = 0; r < 11; r++) {
            full.mend(r, 3, 1);
        }
        due.is("the last of twelve", full.needed(1), 2048);
        for (int ft : new int[] {0, 77, -1, 8, 80, 100, LEAST, MOST}) {
            due.is("needed(" + ft + ")", x.needed(ft), -1);
        }
    }

    private static void promise13Longer() {
        RoadsThanked x = Due.net(1, 10, 12, 20, 2, 50, 23, 5, 56, 7);
        due.is("longer", x.longer(2, 0), 20);
        due.is("longer", x.longer(2, 1), 20);
        due.is("not longer", x.longer(2, 2), 0);
        due.is("not longer", x.longer(2, 4), 0);
        due.is("none then", x.longer(3, 3), -2);
        due.is("none now", x.longer(5, 0), -2);
        x.mend(2, 3, 1);
        due.is("one that is ploughed up already", x.longer(2, 2), 0);
        due.is("none then", x.longer(2, 0), -2);
        x.mend(2, 3, 0);
        due.is("it stays in thought", x.of(0, 3), 0);
        // k is less then, so what is left is shorter: 0 at least.
        Due.law(x, "l+10*k");
        due.is("way by k", x.way(2, -1), 80);
        due.is("shorter counts as 0", x.longer(2, 3), 0);
        due.is("by k then", x.longer(2, 0), 0);
        x.mend(2, 0, 99);
        due.is("way by k", x.way(2, -1), 80);
        due.is("by k then", x.longer(2, 0), 19);
        for (int ft : new int[] {0, 77, -1, 8, 80, 100, LEAST, MOST}) {
            due.is("ft", x.longer(ft, 0), -1);
        }
        for (int road : new int[] {-1, 5, LEAST, MOST}) {
            due.is("road", x.longer(2, road), -1);
        }
        due.is("BAD goes ahead of NOT", x.longer(5, 5), -1);
    }

    private static void promise14Trip() {
        RoadsThanked x = Due.net(1, 10, 12, 20, 2, 30, 34, 5);
        x.mend(1, 2, 0);
        x.mend(2, 2, 1);
        x.mend(2, 1, -8);
        Due.row(x, 0, 0, 1, 4, 8, 0, 0);
        // 10, then 21, then 30 + 9; back at 0 road 0 takes 9, and once more 9.
        due.is("hours", x.trip(0, 0, 0), 10 + 21 + 39 + 9 + 9);
        due.is("where", x.trip(0, 0, 1), 0);
        due.is("all could be gone", x.trip(0, 0, 2), -2);
        due.is("mood 0", x.trip(0, 0, 10), 1);
        due.is("mood 1", x.trip(0, 0, 11), 0);
        due.is("mood 2, held", x.trip(0, 0, 12), -9);
        due.is("mood 3", x.trip(0, 0, 13), 0);
        due.is("in thought", x.of(0, 1), 0);
        due.is("in thought", x.led(0), 0);
        due.is("from elsewhere: the first can't be gone", x.trip(0, 2, 2), 0);
        due.is("hours", x.trip(0, 2, 0), 0);
        due.is("where", x.trip(0, 2, 1), 2);
        due.is("from 1: the first leads to 0, where the second does not end", x.trip(0, 1, 2), 1);
        due.is("where", x.trip(0, 1, 1), 0);
        due.is("mood", x.trip(0, 1, 10), 1);
        x.mend(1, 3, 1);
        due.is("ploughed up", x.trip(0, 0, 2), 1);
        due.is("it ends ahead of it", x.trip(0, 0, 0), 10);
        due.is("it ends ahead of it", x.trip(0, 0, 1), 1);
        due.is("it ends ahead of it", x.trip(0, 0, 11), -1);
        for (int what : new int[] {-1, 3, 9, 14, 22, LEAST, MOST}) {
            due.is("what " + what, x.trip(0, 0, what), VOID);
        }
        for (int place : new int[] {-1, 8, LEAST, MOST}) {
            due.is("place", x.trip(0, place, 0), VOID);
        }
        for (int shelf : new int[] {-1, 6, LEAST, MOST}) {
            due.is("shelf", x.trip(shelf, 0, 0), VOID);
        }
        due.is("nothing", x.trip(1, 0, 0), VOID);
        for (int sort = 1; sort < 5; sort++) {
            x.row(1, sort, 3);
            due.is("of another sort", x.trip(1, 0, 0), VOID);
        }
        x.body(0);
        x.keep(1, 0);
        due.is("a stone", x.trip(1, 0, 0), VOID);
    }

    private static void promise14Ends() {
        RoadsThanked x = Due.net(1, 50);
        long[] steps = new long[30];
        java.util.Arrays.fill(steps, 1);
        Due.row(x, 0, 0, steps);
        int want = 0;
        for (int i = 0; i < 20; i++) {
            want += 50 - Math.min(9, i);
        }
        due.is("20 at most", x.trip(0, 0, 0), want);
        due.is("20 at most", x.trip(0, 0, 1), 0);
        due.is("held at 9", x.trip(0, 0, 10), 9);
        x.put(0, 19, 3);
        due.is("what is no road", x.trip(0, 0, 1), 1);
        due.is("what is no road can't be what can't be gone", x.trip(0, 0, 2), -2);
        x.put(0, 3, -1);
        due.is("below 0", x.trip(0, 0, 1), 1);
        due.is("below 0", x.trip(0, 0, 0), 50 + 49 + 48);
        x.put(0, 2, 255);
        due.is("255 is below 0 as a byte", x.trip(0, 0, 1), 0);
        x.put(0, 1, 127);
        due.is("127", x.trip(0, 0, 1), 1);
        x.put(0, 0, -2);
        due.is("below 0 at once", x.trip(0, 0, 0), 0);
        x.road(23, 5);
        x.row(0, 0, 22);
        x.put(0, 20, 3);
        due.is("the 21st does not count", x.trip(0, 0, 2), -2);
        x.put(0, 19, 3);
        due.is("the 20th does", x.trip(0, 0, 2), 19);
        x.row(0, 0, 0);
        due.is("no steps", x.trip(0, 4, 1), 4);
        // Hours go by the mood of the road that it is jealous of, too, and by neighbours.
        RoadsThanked y = Due.net(1, 50, 12, 60, 12, 70);
        y.mend(1, 2, 0);
        Due.law(y, "l-5*j+k");
        Due.row(y, 0, 0, 2, 3, 3, 5, 0, 1, 3);
        due.is("by j and k", y.trip(0, 0, 0), 52 + 3 * (60 + 10 + 2));
        due.is("by j and k", y.trip(0, 0, 2), 4);
        Due.row(y, 0, 0, 3, 3, 5, 4, 3, 3);
        due.is("by j and k", y.trip(0, 1, 0), 62 * 6);
        Due.row(y, 0, 0, 2, 1, 0, 4, 3);
        due.is("by j and k", y.trip(0, 0, 0), 52 + 52 + 52 + 67 + 67);
    }

    private static void promise15Round() {
        RoadsThanked x = Due.net(1, 10, 12, 10, 23, 10, 3, 10, 14, 1, 45, 1, 67, 5);
        due.is("a ring", x.round(0, 14, -1), 40);
        due.is("the first by numbers", x.round(0, 14, 0), 1);
        due.is("then", x.round(0, 14, 1), 2);
        due.is("then", x.round(0, 14, 2), 3);
        due.is("not as many", x.round(0, 14, 3), -2);
        due.is("not as many", x.round(0, 14, MOST), -2);
        due.is("the place itself does not count", x.round(0, 15, 0), 1);
        due.is("the place itself does not count", x.round(0, 15, -1), 40);
        due.is("of like ones: 1 4 5, there and back", x.round(0, 50, -1), 24);
        due.is("of like ones", x.round(0, 50, 0), 1);
        due.is("of like ones", x.round(0, 50, 1), 4);
        due.is("of like ones", x.round(0, 50, 2), 5);
        due.is("five", x.round(0, 62, -1), 44);
        due.is("five, the first by numbers", x.round(0, 62, 0), 1);
        due.is("five, the second", x.round(0, 62, 1), 4);
        due.is("five, the last", x.round(0, 62, 4), 3);
        due.is("five beside itself", x.round(0, 63, -1), 44);
        due.is("six", x.round(0, 126, -1), -5);
        due.is("all", x.round(0, 255, -1), -5);
        due.is("past place 0", x.round(5, 1, -1), 24);
        due.is("past place 0", x.round(5, 5, 0), 0);
        due.is("six, itself among seven", x.round(1, 127, -1), -5);
        due.is("STATE goes ahead of NOT", x.round(0, 254, 0), -5);
        due.is("it can't be", x.round(0, 64, -1), -2);
        due.is("it can't be", x.round(0, 70, 0), -2);
        due.is("it can be", x.round(6, 128, -1), 10);
        due.is("nowhere", x.round(6, 0, -1), 0);
        due.is("nowhere", x.round(6, 64, -1), 0);
        due.is("nowhere", x.round(6, 64, 0), -2);
        x.mend(0, 3, 1);
        due.is("ploughed up", x.round(0, 14, -1), 60);
        due.is("ploughed up, alike again", x.round(0, 14, 0), 1);
        for (int place : new int[] {-1, 8, LEAST, MOST}) {
            due.is("place", x.round(place, 0, -1), -1);
        }
        for (int set : new int[] {-1, 256, LEAST, MOST}) {
            due.is("set", x.round(0, set, -1), -1);
        }
        due.is("k", x.round(0, 0, -2), -1);
        due.is("BAD goes ahead of STATE", x.round(0, 254, -2), -1);
        // The order counts: 0-1 9, 0-2 1, 1-2 1, 1-3 1.
        RoadsThanked y = Due.net(1, 9, 2, 1, 12, 1, 13, 1);
        due.is("by shortest ways", y.round(0, 14, -1), 6);
        due.is("by shortest ways", y.round(0, 14, 0), 1);
    }
}
