/** Promises 16 to 20: fewest thanks, the best thanks, anger, peace and rings. */
final class ThanksTest {
    private static final int LEAST = Integer.MIN_VALUE, MOST = Integer.MAX_VALUE;
    private static final Due due = new Due("ThanksTest");

    public static void main(String[] args) {
        promise16Least();
        promise16Order();
        promise17Best();
        promise18Anger();
        promise19Peace();
        promise20Ring();
        due.end();
    }

    private static void promise16Least() {
        RoadsThanked x = Due.net(1, 10, 12, 20, 2, 40, 45, 3);
        due.is("none wanted", x.least(2, 30, -1), 0);
        due.is("none wanted", x.least(2, 999, -1), 0);
        due.is("none wanted", x.least(2, 30, 0), -2);
        due.is("one", x.least(2, 29, -1), 1);
        due.is("one, the first by numbers", x.least(2, 29, 0), 0);
        due.is("not as many", x.least(2, 29, 1), -2);
        due.is("two", x.least(2, 28, -1), 2);
        due.is("two: 0, 0", x.least(2, 28, 1), 0);
        due.is("three", x.least(2, 27, -1), 3);
        due.is("three: 0, 0, 0", x.least(2, 27, 2), 0);
        due.is("not as many", x.least(2, 27, 3), -2);
        due.is("four are too many", x.least(2, 26, -1), -2);
        due.is("four are too many", x.least(2, 26, 0), -2);
        x.mend(0, 1, 8);
        due.is("moods are held: 0 once", x.least(2, 21, 0), 0);
        due.is("moods are held: then 1", x.least(2, 20, 1), 1);
        due.is("0, 1, 1", x.least(2, 19, 1), 1);
        due.is("0, 1, 1", x.least(2, 19, 2), 1);
        due.is("in thought", x.of(0, 1), 8);
        due.is("none", x.least(4, 999, -1), -2);
        due.is("none", x.least(4, 999, 0), -2);
        for (int ft : new int[] {0, 77, -1, 8, 80, 100, LEAST, MOST}) {
            due.is("ft", x.least(ft, 1, -1), -1);
        }
        for (int t : new int[] {-1, 1000, LEAST, MOST}) {
            due.is("t", x.least(2, t, -1), -1);
        }
        due.is("k", x.least(2, 1, -2), -1);
        due.is("k", x.least(4, 1, LEAST), -1);
        due.is("t 0 is fine", x.least(2, 0, -1), -2);
        due.is("no roads", new RoadsThanked().least(1, 999, -1), -2);
        RoadsThanked full = Due.fullNet();
        full.mend(11, 0, 9);
        full.mend(11, 1, 1);
        due.is("the last of twelve", full.least(1, 7, 0), 11);
        due.is("too many of twelve", full.least(1, 4, -1), -2);
    }

    private static void promise16Order() {
        // 1 is jealous of 0, 2 of 1: thanks to 0 anger 1.
        RoadsThanked x = Due.net(1, 10, 12, 20, 23, 30);
        x.mend(1, 2, 0);
        due.is("0 is of no use for 0 to 2", x.least(2, 29, 0), 1);
        due.is("0 is of no use for 0 to 2", x.least(2, 28, 1), 1);
        due.is("it is for 0 to 1", x.least(1, 9, 0), 0);
        // Thanks come by numbers: 0 angers 1 at its lowest first, and 1 is thanked behind it.
        RoadsThanked y = Due.net(1, 10, 12, 20);
        y.mend(1, 2, 0);
        y.mend(1, 1, -9);
        due.is("now", y.way(2, -1), 39);
        due.is("0 can make 1 no worse", y.least(2, 38, 0), 0);
        due.is("0, then 1", y.least(2, 37, 1), 0);
        due.is("0, 0, 0", y.least(2, 36, 2), 0);
        due.is("no more", y.least(2, 35, -1), -2);
        // By a law that likes ill moods, the jealous road gets shorter; one that is ploughed up is thanked, too.
        RoadsThanked z = Due.net(1, 10, 12, 20, 67, 5);
        z.mend(1, 2, 2);
        z.mend(2, 3, 1);
        Due.law(z, "l+m");
        due.is("thanks to a road beside", z.least(2, 29, 0), 2);
        due.is("thanks to a road beside", z.least(2, 28, -1), 2);
        due.is("thanks to a road beside", z.least(2, 28, 1), 2);
        // At the top the order by numbers counts: 0 is at 9, thanks to 1 make it 8.
        RoadsThanked top = Due.net(1, 30, 12, 30);
        top.mend(0, 2, 1);
        top.mend(0, 1, 9);
        due.is("now", top.way(2, -1), 51);
        due.is("1, then 1: no use", top.least(2, 50, -1), -2);
        due.is("1 alone", top.least(12, 29, 0), 1);
    }

    private static void promise17Best() {
        RoadsThanked x = new RoadsThanked();
        due.is("no roads", x.best(0), -2);
        due.is("no roads", x.best(1), -2);
        due.is("BAD goes ahead of NOT", x.best(2), -1);
        due.is("BAD goes ahead of NOT", x.best(-1), -1);
        x.road(1, 1);
        x.road(12, 20);
        x.road(23, 30);
        due.is("road 0 can't be shorter", x.best(0), 1);
        due.is("that", x.best(1), 50);
        x.mend(2, 2, 1);
        due.is("2 is jealous of 1", x.best(0), 2);
        due.is("that", x.best(1), 50);
        x.mend(1, 2, 2);
        due.is("each of the other: of like ones the least", x.best(0), 0);
        due.is("that", x.best(1), 51);
        x.mend(2, 1, -9);
        x.mend(1, 2, -1);
        due.is("2 can be no more jealous, so 1 is as good", x.best(0), 1);
        due.is("that", x.best(1), 1 + 19 + 39);
        x.mend(2, 3, 1);
        due.is("of all, ploughed up or not", x.best(1), 1 + 19 + 39);
        due.is("in thought", x.of(1, 1), 0);
        // Three jealous of one: the least harm is done elsewhere, even if all get longer.
        RoadsThanked y = Due.net(1, 1, 12, 1, 23, 1);
        y.mend(1, 2, 0);
        y.mend(2, 2, 0);
        y.mend(0, 2, 1);
        due.is("2 angers none", y.best(0), 2);
        Due.law(y, "l+10*k");
        due.is("by k", y.best(1), 11 + 21 + 11);
        Due.law(y, "l+10-m");
        due.is("another law, another answer", y.best(1), 32);
        Due.law(y, "l-m");
        due.is("that", y.best(1), 3);
    }

    private static void promise18Anger() {
        RoadsThanked x = Due.fullNet();
        due.is("none", x.anger(5), 0);
        for (int r = 0; r < 12; r++) {
            if (r != 5) {
                x.mend(r, 2, 5);
            }
        }
        due.is("all others", x.anger(5), 4095 - 32);
        due.is("none of this one", x.anger(4), 0);
        x.mend(4, 3, 1);
        x.mend(0, 2, -1);
        due.is("ploughed up or not", x.anger(5), 4095 - 32 - 1);
        for (int road : new int[] {-1, 12, LEAST, MOST}) {
            due.is("road", x.anger(road), -1);
        }
        due.is("no roads", new RoadsThanked().anger(0), -1);
    }

    private static void promise19Peace() {
        RoadsThanked x = new RoadsThanked();
        due.is("no roads", x.peace(0), 0);
        due.is("no roads", x.peace(1), 0);
        due.is("what", x.peace(2), -1);
        due.is("what", x.peace(-1), -1);
        x.road(1, 5);
        due.is("one", x.peace(0), 1);
        due.is("one", x.peace(1), 1);
        x.road(1, 5);
        x.mend(0, 2, 1);
        due.is("one of two", x.peace(0), 1);
        due.is("one of two", x.peace(1), 1);
        x = Due.fullNet();
        due.is("all", x.peace(0), 12);
        due.is("all", x.peace(1), 4095);
        for (int r = 1; r < 12; r++) {
            x.mend(r, 2, 0);
        }
        due.is("all but 0", x.peace(0), 11);
        due.is("all but 0", x.peace(1), 4094);
        for (int r = 0; r < 12; r++) {
            x.mend(r, 2, (r + 1) % 12);
        }
        due.is("a ring of 12", x.peace(0), 6);
        due.is("of like ones the least", x.peace(1), 0b010101010101);
        RoadsThanked y = Due.net(1, 1, 1, 1, 1, 1);
        y.mend(2, 2, 1);
        due.is("0 and 1, not 0 and 2", y.peace(1), 3);
        y.mend(1, 2, 0);
        due.is("0 and 2", y.peace(1), 5);
        y.mend(0, 3, 1);
        due.is("ploughed up or not", y.peace(1), 5);
    }

    private static void promise20Ring() {
        RoadsThanked x = Due.net(1, 1, 1, 1, 1, 1, 1, 1, 1, 1, 1, 1);
        due.is("none", x.ring(0, 0), -2);
        due.is("none", x.ring(0, 1), 0);
        // 0 -> 1 -> 2 -> 3 -> 1, and 4 -> 5
        x.mend(0, 2, 1);
        x.mend(1, 2, 2);
        x.mend(2, 2, 3);
        x.mend(3, 2, 1);
        x.mend(4, 2, 5);
        int[] rings = {-2, 3, 3, 3, -2, -2};
        int[] chains = {3, 2, 2, 2, 1, 0};
        for (int r = 0; r < 6; r++) {
            due.is("ring(" + r + ", 0)", x.ring(r, 0), rings[r]);
            due.is("ring(" + r + ", 1)", x.ring(r, 1), chains[r]);
        }
        x.mend(5, 2, 4);
        due.is("two", x.ring(4, 0), 2);
        due.is("two", x.ring(5, 1), 1);
        RoadsThanked all = Due.fullNet();
        for (int r = 0; r < 11; r++) {
            all.mend(r, 2, r + 1);
        }
        due.is("a long chain", all.ring(0, 1), 11);
        due.is("no ring yet", all.ring(0, 0), -2);
        all.mend(11, 2, 0);
        due.is("a ring of 12", all.ring(7, 0), 12);
        due.is("a ring of 12", all.ring(7, 1), 11);
        for (int road : new int[] {-1, 6, LEAST, MOST}) {
            due.is("road", x.ring(road, 0), -1);
        }
        for (int what : new int[] {-1, 2, LEAST, MOST}) {
            due.is("what", x.ring(0, what), -1);
        }
    }
}
