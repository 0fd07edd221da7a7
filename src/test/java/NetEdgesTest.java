/** Sentence by sentence, the edges of promises 1 to 6: a new object, roads, travellers, what is mended and asked of them. */
final class NetEdgesTest {
    private static final int BAD = Due.BAD, FULL = Due.FULL, STATE = Due.STATE, NOT = Due.NOT, VOID = Due.VOID;
    private static final int LEAST = Due.LEAST, MOST = Due.MOST;
    private static final Due due = new Due("NetEdgesTest");

    public static void main(String[] args) {
        eightPlaces();
        noRoads();
        placesOfRoads();
        placesOfTravellers();
        anotherPlace();
        bothWays();
        roadsAsTheyCome();
        roadsFull();
        lengths();
        moods();
        moodAtFirst();
        jealous();
        jealousAtFirst();
        ploughed();
        ploughedAtFirst();
        nobodyGoesIt();
        travellersAsTheyCome();
        travellersFull();
        manners();
        mannersAtFirst();
        rowThatIsMissing();
        rowOfBytes();
        rowThatEnds();
        rowBelow0();
        rowWithinAThree();
        rowNotSo();
        rowAndFull();
        rowHowMany();
        mendWhatItWas();
        mendNumbers();
        mendWhats();
        ofNumbers();
        ofWhats();
        due.end();
    }

    private static void eightPlaces() {
        due.sentence("Eight places");
        RoadsThanked x = new RoadsThanked();
        due.each("reach(#, 0, 1)", p -> x.reach(p, 0, 1) - p, 0, 0, 1, 2, 3, 4, 5, 6, 7);
        due.each("reach(#, 0, 1)", p -> x.reach(p, 0, 1), BAD, -1, 8);
    }

    private static void noRoads() {
        due.sentence("no roads");
        RoadsThanked x = new RoadsThanked();
        due.is("count(0)", x.count(0), 0);
        due.is("hours(0)", x.hours(0), BAD);
        due.is("hours(-1)", x.hours(-1), 0);
        due.each("of(0, #)", w -> x.of(0, w), VOID, 0, 1, 2, 3, 4, 5, 6, 7);
        due.is("peace(1)", x.peace(1), 0);
        due.is("best(0)", x.best(0), NOT);
        due.is("traveller's place", x.goes(0, 0, 0), BAD);
        due.each("count(#)", w -> x.count(w), 0, 0, 1, 2, 3, 4, 5);
        due.each("led(#)", w -> x.led(w), 0, 0, 1, 2, 3, 4);
        due.each("put(#, 0, 1)", s -> x.put(s, 0, 1), -11, 0, 1, 2, 3, 4, 5);
        due.is("trace(0)", x.trace(0), BAD);
    }

    private static void placesOfRoads() {
        due.sentence("PLACES 0 .. 7; ft: 10 times the PLACE from, and that to");
        RoadsThanked x = new RoadsThanked();
        for (int from = 0; from < 8; from++) {
            for (int to = 0; to < 8; to++) {
                if (from != to) {
                    x = x.count(0) == 12 ? new RoadsThanked() : x;
                    int r = x.road(10 * from + to, 5);
                    due.is("of(road " + from + to + ", 6)", x.of(r, 6), from);
                    due.is("of(road " + from + to + ", 7)", x.of(r, 7), to);
                }
            }
        }
        RoadsThanked y = new RoadsThanked();
        due.each("road(#, 5)", ft -> y.road(ft, 5), BAD, Due.noPairs());
        due.is("none came", y.count(0), 0);
    }

    private static void placesOfTravellers() {
        due.sentence("PLACES 0 .. 7, of a TRAVELLER");
        RoadsThanked x = new RoadsThanked();
        due.each("traveller(#)", p -> x.traveller(p), BAD, LEAST, -8, -1, 8, 9, 255, MOST);
        due.is("none came", x.count(1), 0);
        due.is("traveller(0)", x.traveller(0), 0);
        due.is("traveller(7)", x.traveller(7), 1);
        due.is("of(0, 4)", x.of(0, 4), 0);
        due.is("of(1, 4)", x.of(1, 4), 7);
        due.each("mend(0, 4, #)", p -> x.mend(0, 4, p), VOID, LEAST, -1, 8, MOST);
        due.is("mend(0, 4, 7)", x.mend(0, 4, 7), 0);
        due.is("mend(0, 4, 0)", x.mend(0, 4, 0), 7);
    }

    private static void anotherPlace() {
        due.sentence("FROM a PLACE TO another one");
        RoadsThanked x = new RoadsThanked();
        due.each("road(#, 5)", ft -> x.road(ft, 5), BAD, 0, 11, 22, 33, 44, 55, 66, 77);
        due.is("none came", x.count(0), 0);
    }

    private static void bothWays() {
        due.sentence("(both ways)");
        RoadsThanked x = Due.net(25, 7);
        x.traveller(5);
        due.is("way(25, -1)", x.way(25, -1), 7);
        due.is("way(52, -1)", x.way(52, -1), 7);
        due.is("reach(5, 7, 0)", x.reach(5, 7, 0), 36);
        due.is("goes, TO to FROM", x.goes(0, 0, 0), 7);
        due.is("he is at FROM", x.of(0, 4), 2);
        due.is("goes, FROM to TO", x.goes(0, 0, 0), 7);
        due.is("he is at TO", x.of(0, 4), 5);
        Due.row(x, 0, 0, 0, 0, 0);
        due.is("trip from TO", x.trip(0, 5, 1), 2);
        due.is("trip from FROM", x.trip(0, 2, 1), 5);
        due.is("a second road back", x.road(52, 6), 1);
        due.is("is another road", x.way(25, 0), 1);
    }

    private static void roadsAsTheyCome() {
        due.sentence("ROADS 0 .. 11, as they come");
        RoadsThanked x = new RoadsThanked();
        for (int i = 0; i < 12; i++) {
            due.is("road", x.road(34, 20 + i), i);
            due.is("count(0)", x.count(0), i + 1);
            due.is("the next is not there", x.hours(i + 1), BAD);
        }
        for (int i = 0; i < 12; i++) {
            due.is("hours(" + i + ")", x.hours(i), 20 + i);
        }
        due.is("hours(12)", x.hours(12), BAD);
    }

    private static void roadsFull() {
        due.sentence("FULL: 12");
        RoadsThanked x = Due.fullNet();
        due.is("the thirteenth", x.road(23, 5), FULL);
        due.is("count(0)", x.count(0), 12);
        due.is("of(12, 0)", x.of(12, 0), VOID);
        due.is("the twelfth stays", x.of(11, 0), 21);
        RoadsThanked y = new RoadsThanked();
        for (int i = 0; i < 11; i++) {
            y.road(1, 5);
        }
        due.is("the twelfth", y.road(23, 5), 11);
    }

    private static void lengths() {
        due.sentence("LENGTH (1 .. 99)");
        RoadsThanked x = new RoadsThanked();
        due.each("road(1, #)", v -> x.road(1, v), BAD, LEAST, -99, -1, 0, 100, 101, 256, MOST);
        due.is("none came", x.count(0), 0);
        due.is("road(1, 1)", x.road(1, 1), 0);
        due.is("road(1, 99)", x.road(1, 99), 1);
        due.is("of(0, 0)", x.of(0, 0), 1);
        due.is("of(1, 0)", x.of(1, 0), 99);
        due.each("mend(0, 0, #)", v -> x.mend(0, 0, v), VOID, LEAST, -1, 0, 100, 256, MOST);
        due.is("it stays", x.of(0, 0), 1);
        due.is("mend(0, 0, 99)", x.mend(0, 0, 99), 1);
        due.is("mend(0, 0, 1)", x.mend(0, 0, 1), 99);
        for (int v : new int[] {-128, -1, 0, 100, 127}) {
            Due.row(x, 0, 0, 0, 1, v);
            due.is("roads, of " + v, x.roads(0, 0, 1), 0);
        }
        for (int v : new int[] {1, 99}) {
            Due.row(x, 0, 0, 0, 1, v);
            due.is("roads, of " + v, x.roads(0, 0, 1), 1);
        }
        due.is("of(3, 0)", x.of(3, 0), 99);
    }

    private static void moods() {
        due.sentence("MOOD (-9 .. 9)");
        RoadsThanked x = Due.net(1, 50);
        due.each("mend(0, 1, #)", v -> x.mend(0, 1, v), VOID, LEAST, -99, -10, 10, 99, MOST);
        due.is("it stays", x.of(0, 1), 0);
        int was = 0;
        for (int v = -9; v <= 9; v++) {
            due.is("mend(0, 1, " + v + ")", x.mend(0, 1, v), was);
            due.is("of(0, 1)", x.of(0, 1), v);
            was = v;
        }
    }

    private static void moodAtFirst() {
        due.sentence("MOOD 0 at first");
        RoadsThanked x = Due.fullNet();
        for (int r = 0; r < 12; r++) {
            due.is("of(" + r + ", 1)", x.of(r, 1), 0);
        }
        Due.row(x, 0, 0, 0, 1, 5);
        RoadsThanked y = new RoadsThanked();
        Due.row(y, 0, 0, 0, 1, 5);
        y.roads(0, 0, 1);
        due.is("of one from a row", y.of(0, 1), 0);
    }

    private static void jealous() {
        due.sentence("JEALOUS (-1, or another ROAD: of which)");
        RoadsThanked x = Due.net(1, 10, 12, 20, 23, 30);
        due.each("mend(1, 2, #)", v -> x.mend(1, 2, v), VOID, LEAST, -3, -2, 1, 3, 11, 12, MOST);
        due.each("mend(0, 2, #)", v -> x.mend(0, 2, v), VOID, 0, 3);
        due.each("mend(2, 2, #)", v -> x.mend(2, 2, v), VOID, 2, 3);
        due.is("mend(1, 2, 0)", x.mend(1, 2, 0), -1);
        due.is("mend(1, 2, 2)", x.mend(1, 2, 2), 0);
        due.is("mend(1, 2, -1)", x.mend(1, 2, -1), 2);
        due.is("mend(0, 2, 2)", x.mend(0, 2, 2), -1);
        due.is("mend(2, 2, 0)", x.mend(2, 2, 0), -1);
        x.road(34, 40);
        due.is("of one that came since", x.mend(1, 2, 3), -1);
        RoadsThanked full = Due.fullNet();
        due.is("mend(0, 2, 11)", full.mend(0, 2, 11), -1);
        due.is("mend(11, 2, 0)", full.mend(11, 2, 0), -1);
        due.each("mend(11, 2, #)", v -> full.mend(11, 2, v), VOID, 11, 12);
    }

    private static void jealousAtFirst() {
        due.sentence("JEALOUS -1 at first");
        RoadsThanked x = Due.fullNet();
        for (int r = 0; r < 12; r++) {
            due.is("of(" + r + ", 2)", x.of(r, 2), -1);
        }
        RoadsThanked y = new RoadsThanked();
        Due.row(y, 0, 0, 0, 1, 5, 1, 2, 6);
        y.roads(0, 0, 2);
        due.is("of one from a row", y.of(0, 2), -1);
        due.is("of one from a row", y.of(1, 2), -1);
        due.is("none is angered at first", y.anger(0), 0);
    }

    private static void ploughed() {
        due.sentence("PLOUGHED up (0, 1)");
        RoadsThanked x = Due.net(1, 10);
        due.each("mend(0, 3, #)", v -> x.mend(0, 3, v), VOID, LEAST, -1, 2, 3, MOST);
        due.is("it stays", x.of(0, 3), 0);
        due.is("mend(0, 3, 1)", x.mend(0, 3, 1), 0);
        due.is("of(0, 3)", x.of(0, 3), 1);
        due.each("mend(0, 3, #)", v -> x.mend(0, 3, v), VOID, -1, 2);
        due.is("mend(0, 3, 0)", x.mend(0, 3, 0), 1);
        due.is("of(0, 3)", x.of(0, 3), 0);
    }

    private static void ploughedAtFirst() {
        due.sentence("PLOUGHED up 0 at first");
        RoadsThanked x = Due.fullNet();
        for (int r = 0; r < 12; r++) {
            due.is("of(" + r + ", 3)", x.of(r, 3), 0);
        }
    }

    private static void nobodyGoesIt() {
        due.sentence("PLOUGHED up: nobody goes it");
        RoadsThanked x = Due.net(1, 10);
        x.traveller(0);
        Due.row(x, 0, 0, 0);
        x.mend(0, 3, 1);
        due.is("goes", x.goes(0, 0, 0), STATE);
        due.is("trip", x.trip(0, 0, 2), 0);
        due.is("way", x.way(1, -1), NOT);
        due.is("round", x.round(0, 2, -1), NOT);
        due.is("reach", x.reach(0, 999, 0), 1);
        due.is("least", x.least(1, 999, -1), NOT);
        due.is("byTurns", x.byTurns(1, 1, 0), 999);
        x.mend(0, 3, 0);
        due.is("goes", x.goes(0, 0, 0), 10);
        due.is("trip", x.trip(0, 0, 2), NOT);
    }

    private static void travellersAsTheyCome() {
        due.sentence("TRAVELLERS 0 .. 3, as they come");
        RoadsThanked x = new RoadsThanked();
        for (int i = 0; i < 4; i++) {
            due.is("of(" + i + ", 4), ahead", x.of(i, 4), VOID);
            due.is("traveller", x.traveller(7 - i), i);
            due.is("count(1)", x.count(1), i + 1);
        }
        for (int i = 0; i < 4; i++) {
            due.is("of(" + i + ", 4)", x.of(i, 4), 7 - i);
        }
        due.is("of(4, 4)", x.of(4, 4), VOID);
    }

    private static void travellersFull() {
        due.sentence("FULL: 4");
        RoadsThanked x = new RoadsThanked();
        for (int i = 0; i < 4; i++) {
            x.traveller(1);
        }
        due.is("the fifth", x.traveller(2), FULL);
        due.is("count(1)", x.count(1), 4);
        due.is("the fourth stays", x.of(3, 4), 1);
    }

    private static void manners() {
        due.sentence("MANNERS (0 .. 12)");
        RoadsThanked x = new RoadsThanked();
        x.traveller(2);
        due.each("mend(0, 5, #)", v -> x.mend(0, 5, v), VOID, LEAST, -1, 13, 14, MOST);
        due.is("it stays", x.of(0, 5), 6);
        int was = 6;
        for (int v = 0; v <= 12; v++) {
            due.is("mend(0, 5, " + v + ")", x.mend(0, 5, v), was);
            due.is("of(0, 5)", x.of(0, 5), v);
            was = v;
        }
    }

    private static void mannersAtFirst() {
        due.sentence("MANNERS 6 at first");
        RoadsThanked x = new RoadsThanked();
        for (int i = 0; i < 4; i++) {
            x.traveller(0);
            due.is("of(" + i + ", 5)", x.of(i, 5), 6);
        }
    }

    private static void rowThatIsMissing() {
        due.sentence("a SHELF that holds nothing is missing: it ends where the row is missing");
        RoadsThanked x = new RoadsThanked();
        due.each("roads(#, 0, 12)", s -> x.roads(s, 0, 12), 0, 0, 5);
        due.is("roads(0, -1, 1)", x.roads(0, -1, 1), 0);
        x.row(0, 0, 3);
        x.keep(0, -1);
        due.is("nothing again", x.roads(0, 0, 1), 0);
        due.is("count(0)", x.count(0), 0);
        due.each("roads(#, 0, 1)", s -> x.roads(s, 0, 1), BAD, LEAST, -1, 6, MOST);
        due.each("roads(0, 0, #)", n -> x.roads(0, 0, n), BAD, LEAST, -1, 0, 13, MOST);
    }

    private static void rowOfBytes() {
        due.sentence("-12 (no ROW of bytes)");
        RoadsThanked x = new RoadsThanked();
        x.body(0);
        x.keep(5, 0);
        due.is("a stone", x.roads(5, 0, 1), -12);
        for (int sort = 1; sort <= 4; sort++) {
            Due.row(x, sort, sort, 0, 1, 1);
            due.is("a row of sort " + sort, x.roads(sort, 0, 1), -12);
            due.is("at a place below 0, too", x.roads(sort, -1, 1), -12);
            x.row(sort, sort, 0);
            due.is("of no elements, too", x.roads(sort, 0, 1), -12);
        }
        due.is("count(0)", x.count(0), 0);
    }

    private static void rowThatEnds() {
        due.sentence("it ends where the row ends");
        RoadsThanked x = new RoadsThanked();
        Due.row(x, 0, 0, 0, 1, 5, 2, 3, 6);
        due.is("two of twelve", x.roads(0, 0, 12), 2);
        due.is("the second alone", x.roads(0, 3, 12), 1);
        due.each("roads(0, #, 12)", i -> x.roads(0, i, 12), 0, 6, 7, 60, 61, MOST - 2, MOST - 1, MOST);
        due.is("count(0)", x.count(0), 3);
        x.row(0, 0, 0);
        due.is("no elements", x.roads(0, 0, 1), 0);
        x.row(0, 0, 60);
        x.put(0, 57, 7);
        x.put(0, 59, 8);
        due.is("the last three of sixty", x.roads(0, 57, 1), 1);
        due.is("its length", x.of(3, 0), 8);
        due.each("roads(0, #, 12), of sixty", i -> x.roads(0, i, 12), 0, 58, 59, 60, 61);
    }

    private static void rowBelow0() {
        due.sentence("ends (at a place below 0, too)");
        RoadsThanked x = new RoadsThanked();
        Due.row(x, 0, 0, 0, 1, 5, 2, 3, 6, 4, 5, 7);
        due.each("roads(0, #, 12)", i -> x.roads(0, i, 12), 0, -1, -2, -3, -6, -60, LEAST, LEAST + 1, LEAST + 2);
        due.is("count(0)", x.count(0), 0);
    }

    private static void rowWithinAThree() {
        due.sentence("ends (within a three, too)");
        RoadsThanked x = new RoadsThanked();
        Due.row(x, 0, 0, 0, 1, 5, 2, 3);
        due.is("after one", x.roads(0, 0, 2), 1);
        due.is("count(0)", x.count(0), 1);
        Due.row(x, 0, 0, 0, 1, 5, 2);
        due.is("after one", x.roads(0, 0, 2), 1);
        Due.row(x, 0, 0, 0, 1);
        due.is("at once", x.roads(0, 0, 1), 0);
        Due.row(x, 0, 0, 0);
        due.is("at once", x.roads(0, 0, 1), 0);
        due.is("count(0)", x.count(0), 2);
    }

    private static void rowNotSo() {
        due.sentence("one is not so: those ahead came");
        long[][] wrong = {{-1, 1, 5}, {8, 1, 5}, {127, 1, 5}, {1, -1, 5}, {1, 8, 5}, {1, -128, 5}, {3, 3, 5}, {0, 0, 5}, {7, 7, 5},
            {1, 2, 0}, {1, 2, -1}, {1, 2, 100}, {1, 2, 127}, {1, 2, -128}};
        for (long[] w : wrong) {
            RoadsThanked x = new RoadsThanked();
            Due.row(x, 0, 0, 7, 0, 9, w[0], w[1], w[2], 1, 2, 3);
            String told = w[0] + ", " + w[1] + ", " + w[2];
            due.is("roads ahead of " + told, x.roads(0, 0, 3), 1);
            due.is("count(0)", x.count(0), 1);
            due.is("the first came", x.of(0, 6), 7);
            due.is("from it on: " + told, x.roads(0, 3, 2), 0);
            due.is("behind it", x.roads(0, 6, 1), 1);
        }
    }

    private static void rowAndFull() {
        due.sentence("or ROADS are FULL: those ahead came");
        RoadsThanked x = new RoadsThanked();
        for (int i = 0; i < 10; i++) {
            x.road(67, 5);
        }
        Due.row(x, 0, 0, 0, 1, 5, 1, 2, 6, 2, 3, 7);
        due.is("two of three", x.roads(0, 0, 3), 2);
        due.is("count(0)", x.count(0), 12);
        due.is("the last one's length", x.of(11, 0), 6);
        due.is("full at once", x.roads(0, 0, 3), 0);
    }

    private static void rowHowMany() {
        due.sentence("n (1 .. 12) of them: how many came");
        RoadsThanked x = new RoadsThanked();
        x.row(0, 0, 60);
        for (int i = 0; i < 60; i++) {
            x.put(0, i, i % 3 == 0 ? i / 3 % 8 : i % 3 == 1 ? (i / 3 + 1) % 8 : 40 + i / 3);
        }
        due.each("roads(0, 0, #)", n -> x.roads(0, 0, n), BAD, LEAST, -12, -1, 0, 13, 14, MOST);
        due.is("count(0)", x.count(0), 0);
        due.is("one", x.roads(0, 0, 1), 1);
        due.is("count(0)", x.count(0), 1);
        due.is("three, from place 6 on", x.roads(0, 6, 3), 3);
        due.is("the second road", x.of(1, 0), 42);
        due.is("the fourth road", x.of(3, 6), 4);
        due.is("the fourth road", x.of(3, 7), 5);
        RoadsThanked y = new RoadsThanked();
        Due.row(y, 0, 0, 0, 1, 1, 1, 2, 2, 2, 3, 3, 3, 4, 4, 4, 5, 5, 5, 6, 6, 6, 7, 7, 7, 0, 8, 0, 2, 9, 1, 3, 10, 2, 4, 11, 3, 5, 12, 4, 6, 13);
        due.is("twelve", y.roads(0, 0, 12), 12);
        due.is("the twelfth", y.of(11, 0), 12);
    }

    private static void mendWhatItWas() {
        due.sentence("becomes v: what it was");
        RoadsThanked x = Due.net(1, 10, 12, 20);
        x.traveller(3);
        x.traveller(4);
        int[][] told = {{1, 0, 21}, {1, 1, -3}, {1, 2, 0}, {1, 3, 1}, {1, 4, 6}, {1, 5, 12}};
        int[] was = {20, 0, -1, 0, 4, 6};
        int[] first = {10, 0, -1, 0, 3, 6};
        for (int[] t : told) {
            String call = "mend(" + t[0] + ", " + t[1] + ", " + t[2] + ")";
            due.is(call, x.mend(t[0], t[1], t[2]), was[t[1]]);
            due.is(call + " again", x.mend(t[0], t[1], t[2]), t[2]);
            due.is("of, then", x.of(t[0], t[1]), t[2]);
            due.is("the other one stays", x.of(0, t[1]), first[t[1]]);
        }
        due.is("mend() of what deeds changed", deedThenMend(), 1);
    }

    private static int deedThenMend() {
        RoadsThanked x = Due.net(1, 10);
        x.traveller(0);
        x.goes(0, 0, 1);
        return x.mend(0, 1, 5);
    }

    private static void mendNumbers() {
        due.sentence("VOID: BAD (no such number)");
        RoadsThanked x = Due.net(1, 10, 12, 20);
        x.traveller(3);
        int[] values = {7, 1, -1, 1, 1, 1};
        for (int what = 0; what <= 5; what++) {
            int w = what;
            due.each("mend(#, " + w + ")", n -> x.mend(n, w, values[w]), VOID, LEAST, -2, -1, 2, 3, 4, 11, 12, MOST);
        }
        due.each("mend(1, #), no second traveller", w -> x.mend(1, w, 1), VOID, 4, 5);
        RoadsThanked one = new RoadsThanked();
        one.traveller(0);
        due.each("mend(0, #), no road", w -> one.mend(0, w, 1), VOID, 0, 1, 2, 3);
        due.is("a traveller without roads", one.mend(0, 5, 1), 6);
    }

    private static void mendWhats() {
        due.sentence("LENGTH (what 0) .. MANNERS (5): VOID: BAD");
        RoadsThanked x = Due.net(1, 10, 12, 20);
        x.traveller(3);
        x.traveller(3);
        for (int v = 0; v <= 2; v++) {
            int told = v;
            due.each("mend(0, #, " + v + ")", w -> x.mend(0, w, told), VOID, LEAST, -1, 6, 7, 8, 10, MOST);
        }
        due.is("FROM stays", x.of(0, 6), 0);
        due.is("TO stays", x.of(0, 7), 1);
    }

    private static void ofNumbers() {
        due.sentence("of(): VOID: BAD (no such number)");
        RoadsThanked x = Due.net(35, 10, 12, 20);
        x.traveller(3);
        for (int what = 0; what <= 7; what++) {
            int w = what;
            due.each("of(#, " + w + ")", n -> x.of(n, w), VOID, LEAST, -1, 2, 12, MOST);
        }
        due.is("of(1, 4)", x.of(1, 4), VOID);
        due.is("of(1, 5)", x.of(1, 5), VOID);
        due.is("of(1, 7)", x.of(1, 7), 2);
        RoadsThanked men = new RoadsThanked();
        men.traveller(3);
        due.each("of(0, #), no road", w -> men.of(0, w), VOID, 0, 1, 2, 3, 6, 7);
        due.is("of(0, 4), no road", men.of(0, 4), 3);
    }

    private static void ofWhats() {
        due.sentence("As of mend() (0 to 5); of a ROAD 6 FROM, 7 TO");
        RoadsThanked x = Due.net(35, 10, 74, 20);
        x.traveller(2);
        x.traveller(1);
        due.each("of(0, #)", w -> x.of(0, w), VOID, LEAST, -2, -1, 8, 9, 10, MOST);
        due.is("of(0, 6)", x.of(0, 6), 3);
        due.is("of(0, 7)", x.of(0, 7), 5);
        due.is("of(1, 6)", x.of(1, 6), 7);
        due.is("of(1, 7)", x.of(1, 7), 4);
        due.is("of(1, 4)", x.of(1, 4), 1);
    }
}
