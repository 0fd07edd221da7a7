/** "Answers, of several the one named first": for each call that can be refused for two reasons at once. */
final class AnswersTest {
    private static final int BAD = Due.BAD, NOT = Due.NOT, FULL = Due.FULL, STATE = Due.STATE;
    private static final int[] OUTSIDE = {Due.LEAST, -1, 6, Due.MOST};
    private static final Due due = new Due("AnswersTest");

    public static void main(String[] args) {
        roadBadFull();
        roadsBadOtherKind();
        travellerBadFull();
        feedBadFull();
        wayBadNot();
        longerBadNot();
        roundBadStateNot();
        leastBadNot();
        bestBadNot();
        ringBadNot();
        sundayBadNothingOtherKind();
        goesBadState();
        bodyBadFull();
        rowBadBelow0();
        putBadNothingOtherKindPlace();
        elementAllAlike();
        shiftBadNothingOtherKindPlace();
        takenBadNothingOtherKind();
        due.end();
    }

    private static void roadBadFull() {
        due.sentence("road(): BAD, FULL");
        RoadsThanked x = Due.fullNet();
        due.is("FULL", x.road(1, 5), FULL);
        due.each("road(#, 5)", ft -> x.road(ft, 5), BAD, Due.noPairs());
        due.each("road(1, #)", v -> x.road(1, v), BAD, Due.LEAST, 0, 100, Due.MOST);
    }

    private static void roadsBadOtherKind() {
        due.sentence("roads(): BAD, -12");
        RoadsThanked x = new RoadsThanked();
        x.row(0, 1, 3);
        due.is("-12", x.roads(0, 0, 1), -12);
        due.each("roads(0, 0, #)", n -> x.roads(0, 0, n), BAD, Due.LEAST, -1, 0, 13, Due.MOST);
        due.each("roads(1, 0, #), where nothing is", n -> x.roads(1, 0, n), BAD, Due.LEAST, -1, 0, 13, Due.MOST);
        due.each("roads(#, 0, 1)", s -> x.roads(s, 0, 1), BAD, OUTSIDE);
        RoadsThanked full = Due.fullNet();
        full.row(0, 1, 3);
        due.is("-12, when ROADS are FULL", full.roads(0, 0, 1), -12);
        due.is("BAD, when ROADS are FULL", full.roads(0, 0, 0), BAD);
    }

    private static void travellerBadFull() {
        due.sentence("traveller(): BAD, FULL");
        RoadsThanked x = new RoadsThanked();
        for (int i = 0; i < 4; i++) {
            x.traveller(0);
        }
        due.is("FULL", x.traveller(0), FULL);
        due.each("traveller(#)", p -> x.traveller(p), BAD, Due.LEAST, -1, 8, Due.MOST);
    }

    private static void feedBadFull() {
        due.sentence("feed(): BAD, FULL");
        RoadsThanked x = new RoadsThanked();
        for (int i = 0; i < 120; i++) {
            x.feed('1');
        }
        due.is("FULL", x.feed('1'), FULL);
        due.each("feed(#)", v -> x.feed(v), BAD, Due.LEAST, -1, 256, Due.MOST);
        due.each("feed(#)", v -> x.feed(v), FULL, 0, 255);
    }

    private static void wayBadNot() {
        due.sentence("way(): BAD; NOT");
        RoadsThanked x = new RoadsThanked();
        due.each("way(1, #)", k -> x.way(1, k), NOT, -2, -1, 0, Due.MOST);
        due.each("way(1, #)", k -> x.way(1, k), BAD, Due.LEAST, -3);
        due.each("way(#, 5)", ft -> x.way(ft, 5), BAD, Due.noPairs());
    }

    private static void longerBadNot() {
        due.sentence("longer(): BAD; NOT");
        RoadsThanked x = Due.net(1, 5);
        due.is("NOT", x.longer(2, 0), NOT);
        due.each("longer(2, #)", r -> x.longer(2, r), BAD, Due.LEAST, -1, 1, Due.MOST);
        due.each("longer(#, 0)", ft -> x.longer(ft, 0), BAD, Due.noPairs());
    }

    private static void roundBadStateNot() {
        due.sentence("round(): BAD; STATE; NOT");
        RoadsThanked x = new RoadsThanked();
        due.is("NOT", x.round(0, 62, -1), NOT);
        due.each("round(0, 126, #)", k -> x.round(0, 126, k), STATE, -1, 0, 6, Due.MOST);
        due.each("round(0, 126, #)", k -> x.round(0, 126, k), BAD, Due.LEAST, -2);
        due.each("round(0, 62, #)", k -> x.round(0, 62, k), BAD, Due.LEAST, -2);
        due.each("round(#, 255, -1)", p -> x.round(p, 255, -1), BAD, Due.LEAST, -1, 8, Due.MOST);
        due.each("round(0, #, -1)", s -> x.round(0, s, -1), BAD, Due.LEAST, -1, 256, 511, Due.MOST);
    }

    private static void leastBadNot() {
        due.sentence("least(): BAD (t 0 .. 999); NOT");
        RoadsThanked x = new RoadsThanked();
        due.is("NOT", x.least(1, 5, 0), NOT);
        due.each("least(1, #, 0)", t -> x.least(1, t, 0), BAD, Due.LEAST, -1, 1000, Due.MOST);
        due.each("least(1, 5, #)", k -> x.least(1, 5, k), BAD, Due.LEAST, -2);
        due.each("least(#, 5, 0)", ft -> x.least(ft, 5, 0), BAD, Due.noPairs());
    }

    private static void bestBadNot() {
        due.sentence("best(): BAD; NOT");
        RoadsThanked x = new RoadsThanked();
        due.each("best(#)", w -> x.best(w), NOT, 0, 1);
        due.each("best(#)", w -> x.best(w), BAD, Due.LEAST, -1, 2, Due.MOST);
    }

    private static void ringBadNot() {
        due.sentence("ring(): NOT; BAD");
        RoadsThanked x = Due.net(1, 5);
        due.is("NOT", x.ring(0, 0), NOT);
        due.each("ring(#, 0)", r -> x.ring(r, 0), BAD, Due.LEAST, -1, 1, Due.MOST);
        due.each("ring(0, #)", w -> x.ring(0, w), BAD, Due.LEAST, -1, 2, Due.MOST);
    }

    private static void sundayBadNothingOtherKind() {
        due.sentence("sunday(): BAD, -11, -12");
        RoadsThanked x = new RoadsThanked();
        x.row(1, 0, 3);
        due.is("-11", x.sunday(0, 0), -11);
        due.is("-12", x.sunday(1, 0), -12);
        due.each("sunday(0, #)", w -> x.sunday(0, w), BAD, Due.LEAST, -1, 3, Due.MOST);
        due.each("sunday(1, #)", w -> x.sunday(1, w), BAD, Due.LEAST, -1, 3, Due.MOST);
        due.each("sunday(#, 0)", s -> x.sunday(s, 0), BAD, OUTSIDE);
    }

    private static void goesBadState() {
        due.sentence("goes(): BAD; STATE");
        RoadsThanked x = Due.net(1, 5, 12, 5);
        x.traveller(0);
        x.mend(0, 3, 1);
        for (int road = 0; road <= 1; road++) {
            int r = road;
            due.is("STATE", x.goes(0, r, 0), STATE);
            due.each("goes(0, " + r + ", #)", w -> x.goes(0, r, w), BAD, Due.LEAST, -1, 3, Due.MOST);
            due.each("goes(#, " + r + ", 0)", t -> x.goes(t, r, 0), BAD, Due.LEAST, -1, 1, Due.MOST);
        }
        due.each("goes(0, #, 0)", r -> x.goes(0, r, 0), BAD, Due.LEAST, -1, 2, Due.MOST);
    }

    private static void bodyBadFull() {
        due.sentence("body(): BAD, FULL");
        RoadsThanked x = new RoadsThanked();
        for (int i = 0; i < 50; i++) {
            x.body(0);
        }
        due.is("FULL", x.body(0), FULL);
        due.each("body(#)", k -> x.body(k), BAD, Due.LEAST, -1, 8, Due.MOST);
    }

    private static void rowBadBelow0() {
        due.sentence("row(): BAD (sort, n above 60); -14");
        RoadsThanked x = new RoadsThanked();
        due.is("-14", x.row(0, 0, -1), -14);
        due.each("row(0, #, -1)", s -> x.row(0, s, -1), BAD, Due.LEAST, -1, 5, Due.MOST);
        due.each("row(#, 0, -1)", s -> x.row(s, 0, -1), BAD, OUTSIDE);
        due.each("row(#, 0, 61)", s -> x.row(s, 0, 61), BAD, OUTSIDE);
    }

    private static void putBadNothingOtherKindPlace() {
        due.sentence("put(): BAD, -11, -12, -13");
        RoadsThanked x = new RoadsThanked();
        x.body(0);
        x.keep(1, 0);
        x.row(2, 0, 3);
        for (int i : new int[] {Due.LEAST, -1, 3, Due.MOST}) {
            due.is("-11", x.put(0, i, 1), -11);
            due.is("-12", x.put(1, i, 1), -12);
            due.is("-13", x.put(2, i, 1), -13);
            due.each("put(#, " + i + ", 1)", s -> x.put(s, i, 1), BAD, OUTSIDE);
        }
    }

    private static void elementAllAlike() {
        due.sentence("element(): Long.MIN_VALUE: BAD, -11 to -13");
        RoadsThanked x = new RoadsThanked();
        x.body(0);
        x.keep(1, 0);
        x.row(2, 0, 3);
        for (int i : new int[] {Due.LEAST, -1, 3, Due.MOST}) {
            due.each("element(#, " + i + ")", s -> x.element(s, i), Long.MIN_VALUE, Due.LEAST, -1, 0, 1, 2, 6, Due.MOST);
        }
    }

    private static void shiftBadNothingOtherKindPlace() {
        due.sentence("shift(): BAD, -11 (either), -12 (no ROWS, or of unlike sorts), -13");
        RoadsThanked x = new RoadsThanked();
        x.body(0);
        x.keep(1, 0);
        x.row(2, 0, 3);
        x.row(3, 1, 3);
        for (int n : new int[] {1, 4, -1}) {
            due.each("shift(0, 0, #, 0, " + n + ")", s -> x.shift(0, 0, s, 0, n), BAD, OUTSIDE);
            due.each("shift(#, 0, 1, 0, " + n + ")", s -> x.shift(s, 0, 1, 0, n), BAD, OUTSIDE);
            due.each("shift(0, 0, #, 0, " + n + ")", o -> x.shift(0, 0, o, 0, n), -11, 0, 1, 2, 3);
            due.each("shift(#, 0, 0, 0, " + n + ")", s -> x.shift(s, 0, 0, 0, n), -11, 0, 1, 2, 3);
            due.each("shift(1, 0, #, 0, " + n + ")", o -> x.shift(1, 0, o, 0, n), -12, 1, 2, 3);
            due.is("shift(2, 0, 3, 0, " + n + ")", x.shift(2, 0, 3, 0, n), -12);
            due.is("shift(2, 0, 1, 0, " + n + ")", x.shift(2, 0, 1, 0, n), -12);
            due.is("shift(2, 0, 2, 0, " + n + ")", x.shift(2, 0, 2, 0, n), n == 1 ? 1 : -13);
        }
    }

    private static void takenBadNothingOtherKind() {
        due.sentence("taken(): BAD, -11, -12");
        RoadsThanked x = new RoadsThanked();
        x.row(1, 0, 3);
        due.is("-11", x.taken(0, 0), -11);
        due.is("-12", x.taken(1, 0), -12);
        due.each("taken(0, #)", k -> x.taken(0, k), BAD, Due.LEAST, -1, 8, Due.MOST);
        due.each("taken(1, #)", k -> x.taken(1, k), BAD, Due.LEAST, -1, 8, Due.MOST);
        due.each("taken(#, 0)", s -> x.taken(s, 0), BAD, OUTSIDE);
    }
}
