/** Sentence by sentence, the edges of promises 10 to 15: ways, reach, what is needed, longer ways, trips, rounds. */
final class WayEdgesTest {
    private static final int BAD = Due.BAD, NOT = Due.NOT, STATE = Due.STATE, VOID = Due.VOID;
    private static final int LEAST = Due.LEAST, MOST = Due.MOST;
    private static final Due due = new Due("WayEdgesTest");

    public static void main(String[] args) {
        wayBad();
        wayFromAndTo();
        wayHowMany();
        wayKth();
        wayNone();
        wayPloughedUp();
        wayByHoursNow();
        wayFewestHours();
        wayLeastNumbers();
        reachBad();
        reachInTHours();
        reachFarthest();
        reachFarthestAlike();
        reachItself();
        neededBad();
        neededAlone();
        neededNoWayNow();
        neededPloughedAlready();
        longerBad();
        longerByHowMany();
        longer0AtLeast();
        longerNone();
        tripBad();
        tripNoRowOfBytes();
        tripTwenty();
        tripNoRoad();
        tripBelow0();
        tripCannotBeGone();
        tripWhereOneIs();
        tripMoodThen();
        tripOfNothing();
        roundBad();
        roundFive();
        roundItself();
        roundNone();
        roundKth();
        roundAlike();
        roundShortestWays();
        due.end();
    }

    private interface Pair {
        void is(int from, int to);
    }

    private static void forAllPairs(Pair pair) {
        for (int from = 0; from < 8; from++) {
            for (int to = 0; to < 8; to++) {
                if (from != to) {
                    pair.is(from, to);
                }
            }
        }
    }

    private static void wayBad() {
        due.sentence("way(): BAD");
        RoadsThanked x = Due.line();
        due.each("way(#, -1)", ft -> x.way(ft, -1), BAD, Due.noPairs());
        due.each("way(3, #)", k -> x.way(3, k), BAD, LEAST, -100, -4, -3);
        due.is("BAD goes ahead of NOT, none", new RoadsThanked().way(1, -3), BAD);
    }

    private static void wayFromAndTo() {
        due.sentence("A WAY from a PLACE to another one: HOURS (k -1)");
        RoadsThanked x = Due.line();
        forAllPairs((from, to) -> {
            due.is("way(" + from + to + ", -1)", x.way(10 * from + to, -1), Due.onLine(from, to));
            due.is("way(" + from + to + ", 0)", x.way(10 * from + to, 0), from < to ? from : from - 1);
            due.is("way(" + from + to + ", 9)", x.way(10 * from + to, Math.abs(to - from) - 1), from < to ? to - 1 : to);
        });
    }

    private static void wayHowMany() {
        due.sentence("how many ROADS (-2)");
        RoadsThanked x = Due.line();
        forAllPairs((from, to) -> due.is("way(" + from + to + ", -2)", x.way(10 * from + to, -2), Math.abs(from - to)));
    }

    private static void wayKth() {
        due.sentence("the k-th (0 on; NOT: there are not as many)");
        RoadsThanked x = Due.line();
        for (int k = 0; k < 7; k++) {
            due.is("way(7, " + k + ")", x.way(7, k), k);
            due.is("way(70, " + k + ")", x.way(70, k), 6 - k);
        }
        due.each("way(7, #)", k -> x.way(7, k), NOT, 7, 8, 12, MOST);
        due.each("way(1, #)", k -> x.way(1, k), NOT, 1, 2, MOST);
    }

    private static void wayNone() {
        due.sentence("NOT: there is none");
        RoadsThanked x = new RoadsThanked();
        due.each("way(1, #), no roads", k -> x.way(1, k), NOT, -2, -1, 0, 5);
        x.road(1, 5);
        x.road(23, 5);
        due.each("way(2, #)", k -> x.way(2, k), NOT, -2, -1, 0, 5);
        due.each("way(31, #)", k -> x.way(31, k), NOT, -2, -1, 0, 5);
        due.is("way(1, -1)", x.way(1, -1), 5);
    }

    private static void wayPloughedUp() {
        due.sentence("A WAY goes along ROADS that are not PLOUGHED up");
        RoadsThanked x = Due.net(1, 5, 1, 9, 12, 4);
        x.mend(0, 3, 1);
        due.is("way(2, -1)", x.way(2, -1), 13);
        due.is("way(2, 0)", x.way(2, 0), 1);
        x.mend(1, 3, 1);
        due.is("way(2, -1)", x.way(2, -1), NOT);
        x.mend(0, 3, 0);
        due.is("way(2, -1)", x.way(2, -1), 9);
    }

    private static void wayByHoursNow() {
        due.sentence("by HOURS as they are now");
        RoadsThanked x = Due.net(1, 20, 1, 22);
        x.traveller(0);
        due.is("way(1, 0)", x.way(1, 0), 0);
        x.goes(0, 0, 2);
        due.is("alike", x.way(1, 0), 0);
        due.is("alike", x.way(1, -1), 22);
        x.goes(0, 1, 1);
        due.is("after thanks", x.way(1, 0), 1);
        due.is("after thanks", x.way(1, -1), 21);
        x.night();
        x.night();
        due.is("after two nights", x.way(1, 0), 0);
        due.is("law", Due.law(x, "30-l"), 1);
        due.is("by the law", x.way(1, 0), 1);
        due.is("by the law", x.way(1, -1), 8);
    }

    private static void wayFewestHours() {
        due.sentence("SHORTEST: of fewest HOURS");
        RoadsThanked x = Due.net(3, 31, 1, 10, 12, 10, 23, 10);
        due.is("three roads of 10", x.way(3, -1), 30);
        due.is("three roads of 10", x.way(3, -2), 3);
        x.mend(0, 0, 29);
        due.is("one of 29", x.way(3, -1), 29);
        due.is("one of 29", x.way(3, -2), 1);
        RoadsThanked far = Due.net(1, 99, 12, 99, 23, 99, 34, 99, 45, 99, 56, 99, 67, 99);
        due.is("seven of 99", far.way(7, -1), 693);
        due.is("law", Due.law(far, "1"), 1);
        due.is("seven of 1", far.way(7, -1), 7);
    }

    private static void wayLeastNumbers() {
        due.sentence("of like ones that of which, from its beginning, each next ROAD has the least number");
        RoadsThanked one = Due.net(3, 30, 1, 10, 12, 10, 23, 10);
        due.is("one road, number 0", one.way(3, -2), 1);
        RoadsThanked three = Due.net(1, 10, 12, 10, 23, 10, 3, 30);
        due.is("three roads, the first of number 0", three.way(3, -2), 3);
        due.is("from the other end, too", three.way(30, 0), 2);
        // Ahead: 0 first, whatever comes; back: 3 first, as it is the least there.
        RoadsThanked x = Due.net(1, 5, 2, 5, 13, 5, 23, 5);
        due.is("ahead, first", x.way(3, 0), 0);
        due.is("ahead, then", x.way(3, 1), 2);
        due.is("back, first", x.way(30, 0), 2);
        due.is("back, then", x.way(30, 1), 0);
        RoadsThanked y = Due.net(2, 5, 1, 5, 23, 5, 13, 5);
        due.is("ahead, first", y.way(3, 0), 0);
        due.is("ahead, then", y.way(3, 1), 2);
        RoadsThanked z = Due.net(13, 5, 1, 5, 23, 5, 2, 5);
        due.is("ahead, first", z.way(3, 0), 1);
        due.is("ahead, then", z.way(3, 1), 0);
        due.is("back, first", z.way(30, 0), 0);
        due.is("back, then", z.way(30, 1), 1);
        RoadsThanked like = Due.net(12, 9, 12, 3, 12, 3, 12, 3);
        due.is("of like roads", like.way(12, 0), 1);
        due.is("of like roads", like.way(21, 0), 1);
        like.mend(1, 3, 1);
        due.is("the least that is not ploughed up", like.way(12, 0), 2);
    }

    private static void reachBad() {
        due.sentence("reach(): in t (0 .. 999) HOURS. BAD");
        RoadsThanked x = Due.line();
        for (int what = 0; what <= 2; what++) {
            int w = what;
            due.each("reach(#, 5, " + w + ")", p -> x.reach(p, 5, w), BAD, LEAST, -1, 8, 9, MOST);
            due.each("reach(0, #, " + w + ")", t -> x.reach(0, t, w), BAD, LEAST, -1, 1000, 1001, MOST);
        }
        due.each("reach(0, 5, #)", w -> x.reach(0, 5, w), BAD, LEAST, -1, 3, 4, MOST);
        due.is("reach(7, 0, 0)", x.reach(7, 0, 0), 128);
        due.is("reach(0, 999, 0)", x.reach(0, 999, 0), 255);
    }

    private static void reachInTHours() {
        due.sentence("which PLACES (bits) one comes to in t HOURS");
        RoadsThanked x = Due.line();
        for (int place = 0; place < 8; place++) {
            for (int t : new int[] {0, 9, 10, 15, 16, 31, 32, 45, 46, 90, 91}) {
                int bits = 0;
                for (int p = 0; p < 8; p++) {
                    bits |= Due.onLine(place, p) <= t ? 1 << p : 0;
                }
                due.is("reach(" + place + ", " + t + ", 0)", x.reach(place, t, 0), bits);
            }
        }
        RoadsThanked far = Due.net(1, 99, 12, 99, 23, 99, 34, 99, 45, 99, 56, 99, 67, 99);
        due.is("692 hours", far.reach(0, 692, 0), 127);
        due.is("693 hours", far.reach(0, 693, 0), 255);
        far.mend(3, 3, 1);
        due.is("ploughed up", far.reach(0, 999, 0), 15);
    }

    private static void reachFarthest() {
        due.sentence("the farthest PLACE that can be come to (by HOURS)");
        RoadsThanked x = Due.line();
        int[] far = {7, 7, 7, 7, 0, 0, 0, 0};
        for (int place = 0; place < 8; place++) {
            for (int t : new int[] {0, 5, 999}) {
                due.is("reach(" + place + ", " + t + ", 1)", x.reach(place, t, 1), far[place]);
                due.is("reach(" + place + ", " + t + ", 2)", x.reach(place, t, 2), Due.onLine(place, far[place]));
            }
        }
        x.mend(5, 3, 1);
        due.is("not what can't be come to", x.reach(0, 0, 1), 5);
        due.is("its hours", x.reach(0, 0, 2), 60);
        RoadsThanked near = Due.net(1, 50, 12, 1, 23, 1);
        due.is("by hours, not by roads", near.reach(2, 0, 1), 0);
        due.is("by shortest ways", near.reach(2, 0, 2), 51);
    }

    private static void reachFarthestAlike() {
        due.sentence("of like ones the least");
        RoadsThanked x = Due.net(45, 9, 46, 9, 42, 9, 43, 8);
        due.is("2, 5 and 6", x.reach(4, 0, 1), 2);
        x.mend(2, 3, 1);
        due.is("5 and 6", x.reach(4, 0, 1), 5);
        x.mend(0, 0, 8);
        due.is("6 alone", x.reach(4, 0, 1), 6);
        x.mend(1, 0, 8);
        due.is("3, 5 and 6", x.reach(4, 0, 1), 3);
        RoadsThanked y = Due.net(10, 5, 17, 5);
        due.is("0 and 7", y.reach(1, 0, 1), 0);
    }

    private static void reachItself() {
        due.sentence("REACH: a PLACE by itself");
        RoadsThanked x = new RoadsThanked();
        for (int place = 0; place < 8; place++) {
            due.is("reach(" + place + ", 0, 0)", x.reach(place, 0, 0), 1 << place);
            due.is("reach(" + place + ", 999, 0)", x.reach(place, 999, 0), 1 << place);
            due.is("reach(" + place + ", 0, 1)", x.reach(place, 0, 1), place);
            due.is("reach(" + place + ", 0, 2)", x.reach(place, 0, 2), 0);
        }
    }

    private static void neededBad() {
        due.sentence("needed(): BAD");
        RoadsThanked x = Due.line();
        due.each("needed(#)", ft -> x.needed(ft), BAD, Due.noPairs());
    }

    private static void neededAlone() {
        due.sentence("NEEDED: which ROADS (bits), PLOUGHED up alone, leave no WAY between two PLACES");
        RoadsThanked x = Due.line();
        forAllPairs((from, to) -> {
            int bits = (1 << Math.max(from, to)) - (1 << Math.min(from, to));
            due.is("needed(" + from + to + ")", x.needed(10 * from + to), bits);
        });
        x.road(24, 99);
        due.is("2 and 3 are no more needed", x.needed(7), 127 - 4 - 8);
        x.road(7, 99);
        due.is("none is needed", x.needed(7), 0);
        RoadsThanked full = Due.fullNet();
        for (int r = 0; r < 11; r++) {
            due.is("none of " + (12 - r), full.needed(1), 0);
            full.mend(r, 3, 1);
        }
        due.is("the twelfth", full.needed(1), 2048);
    }

    private static void neededNoWayNow() {
        due.sentence("two PLACES that have one now");
        RoadsThanked x = Due.net(1, 5, 23, 5);
        due.is("needed(2)", x.needed(2), 0);
        due.is("needed(13)", x.needed(13), 0);
        due.is("needed(67)", x.needed(67), 0);
        due.is("no roads", new RoadsThanked().needed(1), 0);
        x.mend(0, 3, 1);
        due.is("ploughed up", x.needed(1), 0);
    }

    private static void neededPloughedAlready() {
        due.sentence("NEEDED: not what is PLOUGHED up already");
        RoadsThanked x = Due.net(1, 5, 1, 5, 12, 5);
        due.is("needed(2)", x.needed(2), 4);
        x.mend(1, 3, 1);
        due.is("needed(2)", x.needed(2), 5);
        x.mend(1, 3, 0);
        x.mend(0, 3, 1);
        due.is("needed(2)", x.needed(2), 6);
    }

    private static void longerBad() {
        due.sentence("longer(): BAD");
        RoadsThanked x = Due.line();
        due.each("longer(#, 0)", ft -> x.longer(ft, 0), BAD, Due.noPairs());
        due.each("longer(7, #)", r -> x.longer(7, r), BAD, LEAST, -2, -1, 7, 8, 12, MOST);
        RoadsThanked none = new RoadsThanked();
        due.is("BAD goes ahead of NOT", none.longer(1, 0), BAD);
    }

    private static void longerByHowMany() {
        due.sentence("LONGER: by how many HOURS a WAY is longer, if a ROAD is PLOUGHED up");
        RoadsThanked x = Due.line();
        x.road(7, 99);
        forAllPairs((from, to) -> {
            int along = Due.onLine(from, to);
            int round = Due.onLine(0, 7) - along + 99;
            int r = Math.min(from, to);
            int want = along < round ? round - along : 0;
            due.is("longer(" + from + to + ", " + r + ")", x.longer(10 * from + to, r), want);
            due.is("longer(" + from + to + ", 7)", x.longer(10 * from + to, 7), Math.max(0, along - round));
        });
        due.is("in thought", x.of(0, 3), 0);
    }

    private static void longer0AtLeast() {
        due.sentence("(0 at least)");
        RoadsThanked x = Due.net(1, 10, 1, 12, 12, 5);
        due.is("one that it does not go", x.longer(1, 1), 0);
        due.is("one elsewhere", x.longer(1, 2), 0);
        x.mend(1, 0, 10);
        due.is("a like one beside", x.longer(1, 0), 0);
        x.mend(1, 3, 1);
        due.is("one that is ploughed up already", x.longer(1, 1), 0);
        due.is("law", Due.law(x, "l+9*k"), 1);
        due.is("way now, one beside it", x.way(1, -1), 19);
        due.is("shorter then, as k is less", x.longer(1, 2), 0);
        x.mend(1, 3, 0);
        due.is("way now, two beside it", x.way(1, -1), 28);
        due.is("the other one, by k then", x.longer(1, 0), 0);
        x.mend(1, 0, 30);
        due.is("the other one, by k then", x.longer(1, 0), 30 + 9 - 28);
    }

    private static void longerNone() {
        due.sentence("NOT: there is none, then or now");
        RoadsThanked x = Due.net(1, 10, 12, 20, 34, 5);
        due.is("none then", x.longer(2, 0), NOT);
        due.is("none then", x.longer(2, 1), NOT);
        due.is("none now", x.longer(3, 0), NOT);
        due.is("none now", x.longer(67, 2), NOT);
        x.mend(0, 3, 1);
        due.is("none now, as it is ploughed up", x.longer(1, 0), NOT);
    }

    private static void tripBad() {
        due.sentence("trip(): VOID: BAD");
        RoadsThanked x = Due.net(1, 10, 12, 10);
        Due.row(x, 0, 0, 0);
        due.each("trip(#, 0, 0)", s -> x.trip(s, 0, 0), VOID, LEAST, -1, 6, 7, MOST);
        due.each("trip(0, #, 0)", p -> x.trip(0, p, 0), VOID, LEAST, -1, 8, 9, MOST);
        due.each("trip(0, 0, #)", w -> x.trip(0, 0, w), VOID, LEAST, -1, 3, 4, 9, 12, 13, 21, 22, MOST);
        due.is("trip(0, 0, 10)", x.trip(0, 0, 10), 0);
        due.is("trip(0, 0, 11)", x.trip(0, 0, 11), 0);
        due.is("trip(0, 7, 1)", x.trip(0, 7, 1), 7);
        RoadsThanked full = Due.fullNet();
        full.row(5, 0, 0);
        due.is("trip(5, 0, 21)", full.trip(5, 0, 21), 0);
        due.is("trip(5, 0, 22)", full.trip(5, 0, 22), VOID);
    }

    private static void tripNoRowOfBytes() {
        due.sentence("trip(): VOID: no ROW of bytes");
        RoadsThanked x = Due.net(1, 10);
        due.is("nothing", x.trip(0, 0, 0), VOID);
        for (int sort = 1; sort <= 4; sort++) {
            x.row(0, sort, 2);
            due.is("a row of sort " + sort, x.trip(0, 0, 0), VOID);
            x.row(0, sort, 0);
            due.is("a row of none, of sort " + sort, x.trip(0, 0, 1), VOID);
        }
        x.body(0);
        x.keep(0, 0);
        due.is("a stone", x.trip(0, 0, 0), VOID);
        x.row(0, 0, 0);
        due.is("a row of bytes", x.trip(0, 0, 0), 0);
    }

    private static void tripTwenty() {
        due.sentence("A TRIP: 20 at most");
        for (int n : new int[] {19, 20, 21, 22, 60}) {
            RoadsThanked x = Due.net(1, 10);
            x.row(0, 0, n);
            int gone = Math.min(20, n);
            due.is("hours of " + n, x.trip(0, 0, 0), 10 * gone);
            due.is("where one is behind " + n, x.trip(0, 0, 1), gone % 2);
            due.is("the first that cannot be gone of " + n, x.trip(0, 0, 2), NOT);
        }
        RoadsThanked y = Due.net(1, 10, 23, 10);
        y.row(0, 0, 21);
        y.put(0, 20, 3);
        due.is("the 21st does not count", y.trip(0, 0, 2), NOT);
        y.put(0, 19, 3);
        due.is("the 20th does", y.trip(0, 0, 2), 19);
        due.is("it ends ahead of it", y.trip(0, 0, 0), 190);
    }

    private static void tripNoRoad() {
        due.sentence("it ends with what is no ROAD");
        RoadsThanked x = Due.net(1, 10, 1, 20);
        for (int step : new int[] {6, 7, 8, 9, 36, 126, 127}) {
            Due.row(x, 0, 0, 0, step, 3);
            due.is("hours ahead of " + step, x.trip(0, 0, 0), 10);
            due.is("where one is", x.trip(0, 0, 1), 1);
            due.is("it is not one that cannot be gone", x.trip(0, 0, 2), NOT);
        }
        Due.row(x, 0, 0, 0, 5, 3);
        due.is("5 is a slight of road 1", x.trip(0, 0, 0), 10 + 20 + 22);
        RoadsThanked full = Due.fullNet();
        Due.row(full, 0, 0, 35, 36, 0);
        due.is("35 is a slight of road 11", full.trip(0, 0, 0), 21);
        due.is("35 is a slight of road 11", full.trip(0, 0, 21), -2);
        due.is("no roads", noRoads(), 3);
    }

    private static int noRoads() {
        RoadsThanked x = new RoadsThanked();
        Due.row(x, 0, 0, 0, 0);
        return x.trip(0, 3, 0) + x.trip(0, 3, 1) + (x.trip(0, 3, 2) == NOT ? 0 : 100);
    }

    private static void tripBelow0() {
        due.sentence("it ends with what is below 0");
        RoadsThanked x = Due.net(1, 10);
        for (int step : new int[] {-1, -2, -3, -4, -128, 128, 255}) {
            Due.row(x, 0, 0, 0, step, 0);
            due.is("hours ahead of " + step, x.trip(0, 0, 0), 10);
            due.is("where one is", x.trip(0, 0, 1), 1);
            due.is("it is not one that cannot be gone", x.trip(0, 0, 2), NOT);
            Due.row(x, 0, 0, step, 0);
            due.is("at once", x.trip(0, 0, 0), 0);
        }
    }

    private static void tripCannotBeGone() {
        due.sentence("the first ROAD that cannot be gone (it does not end there, or is PLOUGHED up; 0 on; NOT), it ends ahead of it");
        RoadsThanked x = Due.net(1, 10, 12, 20, 23, 30);
        Due.row(x, 0, 0, 0, 3, 6);
        due.is("all can be gone", x.trip(0, 0, 2), NOT);
        due.is("from 1, the second does not end there", x.trip(0, 1, 2), 1);
        due.is("hours ahead of it", x.trip(0, 1, 0), 10);
        due.is("where one is", x.trip(0, 1, 1), 0);
        due.is("from 2, the first", x.trip(0, 2, 2), 0);
        due.is("hours ahead of it", x.trip(0, 2, 0), 0);
        due.is("where one is", x.trip(0, 2, 1), 2);
        x.mend(2, 3, 1);
        due.is("the third is ploughed up", x.trip(0, 0, 2), 2);
        due.is("hours ahead of it", x.trip(0, 0, 0), 30);
        due.is("where one is", x.trip(0, 0, 1), 2);
        Due.row(x, 0, 0, 1, 7, 1);
        due.is("of thanks, the second", x.trip(0, 0, 2), 1);
        due.is("its mood stays", x.trip(0, 0, 12), 0);
        due.is("what comes behind is not gone", x.trip(0, 0, 10), 1);
        Due.row(x, 0, 0, 0, 9, 6);
        due.is("what is no road comes first", x.trip(0, 0, 2), NOT);
    }

    private static void tripWhereOneIs() {
        due.sentence("where one is (1)");
        RoadsThanked x = Due.line();
        Due.row(x, 0, 0, 0, 3, 6, 9, 12, 15, 18);
        due.is("from end to end", x.trip(0, 0, 1), 7);
        Due.row(x, 0, 0, 18, 15, 12, 9, 6, 3, 0);
        due.is("and back", x.trip(0, 7, 1), 0);
        due.is("hours", x.trip(0, 7, 0), Due.onLine(0, 7));
        Due.row(x, 0, 0, 9, 9, 9);
        due.is("to and fro", x.trip(0, 4, 1), 3);
        due.is("to and fro", x.trip(0, 3, 1), 4);
    }

    private static void tripMoodThen() {
        due.sentence("MOOD of a ROAD then");
        RoadsThanked x = Due.net(1, 50, 12, 50, 67, 50);
        x.mend(2, 2, 0);
        x.mend(2, 1, 3);
        x.mend(1, 1, -5);
        Due.row(x, 0, 0, 1, 1, 2, 5);
        due.is("thanks, thanks, a slight", x.trip(0, 0, 10), 0);
        due.is("a slight", x.trip(0, 0, 11), -7);
        due.is("one that is jealous and not gone", x.trip(0, 0, 12), 1);
        due.is("moods change behind each", x.trip(0, 0, 0), 50 + 49 + 48 + 55);
        due.is("in thought", x.of(0, 1) + x.of(1, 1) + x.of(2, 1), -2);
        Due.row(x, 0, 0, 3, 1);
        due.is("nothing changes nothing", x.trip(0, 2, 11), -5);
        due.is("thanks behind it", x.trip(0, 2, 10), 1);
    }

    private static void tripOfNothing() {
        due.sentence("A TRIP: a ROW of none");
        RoadsThanked x = Due.net(1, 50);
        x.mend(0, 1, 4);
        x.row(3, 0, 0);
        due.is("hours", x.trip(3, 6, 0), 0);
        due.is("where one is", x.trip(3, 6, 1), 6);
        due.is("none that cannot be gone", x.trip(3, 6, 2), NOT);
        due.is("mood then", x.trip(3, 6, 10), 4);
    }

    private static void roundBad() {
        due.sentence("round(): BAD");
        RoadsThanked x = Due.line();
        due.each("round(#, 0, -1)", p -> x.round(p, 0, -1), BAD, LEAST, -1, 8, 9, MOST);
        due.each("round(0, #, -1)", s -> x.round(0, s, -1), BAD, LEAST, -256, -1, 256, 257, MOST);
        due.each("round(0, 2, #)", k -> x.round(0, 2, k), BAD, LEAST, -3, -2);
        due.each("round(0, 255, #), ahead of STATE", k -> x.round(0, 255, k), BAD, LEAST, -2);
        due.is("ahead of NOT", new RoadsThanked().round(0, 2, -2), BAD);
        due.is("round(7, 128, -1)", x.round(7, 128, -1), 0);
        due.is("round(7, 1, -1)", x.round(7, 1, -1), 2 * Due.onLine(0, 7));
    }

    private static void roundFive() {
        due.sentence("all PLACES of a set (5 at most beside that one, else STATE)");
        RoadsThanked x = Due.line();
        for (int set = 0; set < 256; set++) {
            int others = Integer.bitCount(set & 251);
            int low = set == 0 ? 2 : Math.min(2, Integer.numberOfTrailingZeros(set));
            int high = set == 0 ? 2 : Math.max(2, 31 - Integer.numberOfLeadingZeros(set));
            due.is("round(2, " + set + ", -1)", x.round(2, set, -1), others > 5 ? STATE : 2 * Due.onLine(low, high));
        }
        due.is("STATE goes ahead of NOT", new RoadsThanked().round(0, 126, -1), STATE);
        due.is("STATE goes ahead of NOT", x.round(0, 254, 99), STATE);
    }

    private static void roundItself() {
        due.sentence("the PLACE itself does not count");
        RoadsThanked x = Due.line();
        for (int place = 0; place < 8; place++) {
            due.is("round(" + place + ", itself, -1)", x.round(place, 1 << place, -1), 0);
            due.is("round(" + place + ", itself, 0)", x.round(place, 1 << place, 0), NOT);
            due.is("round(" + place + ", none, -1)", x.round(place, 0, -1), 0);
            int other = (place + 1) % 8;
            due.is("round(" + place + ", itself and " + other + ", 0)", x.round(place, 1 << place | 1 << other, 0), other);
            due.is("round(" + place + ", itself and " + other + ", 1)", x.round(place, 1 << place | 1 << other, 1), NOT);
        }
        due.is("itself and five", x.round(0, 63, -1), 2 * Due.onLine(0, 5));
        due.is("six without itself", x.round(7, 63, -1), STATE);
    }

    private static void roundNone() {
        due.sentence("NOT: it can't be");
        RoadsThanked x = Due.net(1, 5, 12, 5, 45, 5);
        due.each("round(0, 16, #)", k -> x.round(0, 16, k), NOT, -1, 0, 1);
        due.each("round(0, 18, #)", k -> x.round(0, 18, k), NOT, -1, 0, 1, 2);
        due.is("round(4, 32, -1)", x.round(4, 32, -1), 10);
        x.mend(0, 3, 1);
        due.is("ploughed up", x.round(0, 2, -1), NOT);
        due.is("past the others", x.round(1, 4, -1), 10);
        due.is("no roads, past none", new RoadsThanked().round(3, 0, -1), 0);
    }

    private static void roundKth() {
        due.sentence("the k-th PLACE (NOT: there are not as many)");
        RoadsThanked x = Due.net(13, 5, 35, 5, 57, 5, 72, 5, 24, 5, 41, 5);
        due.is("round(4, 174, -1)", x.round(4, 174, -1), 30);
        int[] from4 = {1, 3, 5, 7, 2};
        int[] from3 = {1, 4, 2, 7, 5};
        for (int k = 0; k < 5; k++) {
            due.is("round(4, 174, " + k + ")", x.round(4, 174, k), from4[k]);
            due.is("round(3, 182, " + k + ")", x.round(3, 182, k), from3[k]);
        }
        due.each("round(4, 174, #)", k -> x.round(4, 174, k), NOT, 5, 6, MOST);
        due.each("round(3, 2, #)", k -> x.round(3, 2, k), NOT, 1, 2, MOST);
    }

    private static void roundAlike() {
        due.sentence("of like ones the first by numbers");
        RoadsThanked ring = Due.net(1, 5, 12, 5, 23, 5, 30, 5);
        due.is("0 1 2 3, not 0 3 2 1", ring.round(0, 14, 0), 1);
        due.is("0 1 2 3", ring.round(0, 14, 2), 3);
        due.is("2 1 0 3, not 2 3 0 1", ring.round(2, 11, 0), 1);
        due.is("then", ring.round(2, 11, 1), 0);
        due.is("then", ring.round(2, 11, 2), 3);
        RoadsThanked star = Due.net(31, 5, 32, 5, 34, 5, 35, 5, 36, 5);
        int[] order = {1, 2, 4, 5, 6};
        for (int k = 0; k < 5; k++) {
            due.is("a star, " + k, star.round(3, 118, k), order[k]);
        }
        due.is("a star", star.round(3, 118, -1), 50);
    }

    private static void roundShortestWays() {
        due.sentence("and back, by SHORTEST WAYS: HOURS");
        RoadsThanked x = Due.net(1, 40, 2, 10, 21, 10, 3, 10, 13, 35);
        due.is("there by 2", x.round(0, 2, -1), 40);
        due.is("past 1 and 3", x.round(0, 10, -1), 20 + 30 + 10);
        due.is("1 first", x.round(0, 10, 0), 1);
        due.is("past 2 and 3", x.round(0, 12, -1), 40);
        x.mend(1, 3, 1);
        due.is("not along what is ploughed up", x.round(0, 2, -1), 80);
        x.mend(0, 1, 9);
        due.is("by hours as they are now", x.round(0, 2, -1), 62);
        due.is("law", Due.law(x, "1"), 1);
        due.is("by the law", x.round(0, 10, -1), 3);
    }
}
