/** Sentence by sentence, the edges of promises 16 to 20: the fewest thanks, the best, anger, peace, rings and chains. */
final class ThanksEdgesTest {
    private static final int BAD = Due.BAD, NOT = Due.NOT;
    private static final int LEAST = Due.LEAST, MOST = Due.MOST;
    private static final Due due = new Due("ThanksEdgesTest");

    public static void main(String[] args) {
        leastBad();
        leastFromAndTo();
        leastTimes();
        leastNoneWanted();
        leastUpToThree();
        leastSameRoad();
        leastByNumbers();
        leastOneBehindTheOther();
        leastKth();
        leastLikeOnes();
        leastNone();
        leastByOtherWays();
        leastPloughedUp();
        bestBad();
        bestNoRoads();
        bestLikeOnes();
        bestOfAllTogether();
        angerBad();
        angerOfOne();
        peaceBad();
        peaceNoRoads();
        peaceMost();
        peaceLikeOnes();
        peacePloughedUp();
        ringBad();
        ringHowMany();
        ringNone();
        chainHowMany();
        chainHasBeenMet();
        due.end();
    }

    private static void leastBad() {
        due.sentence("least(): BAD (t 0 .. 999)");
        RoadsThanked x = Due.line();
        due.each("least(#, 5, -1)", ft -> x.least(ft, 5, -1), BAD, Due.noPairs());
        due.each("least(1, #, -1)", t -> x.least(1, t, -1), BAD, LEAST, -1, 1000, 1001, MOST);
        due.each("least(1, 5, #)", k -> x.least(1, 5, k), BAD, LEAST, -3, -2);
        due.is("BAD goes ahead of NOT", new RoadsThanked().least(1, 5, -2), BAD);
        due.is("BAD goes ahead of NOT", new RoadsThanked().least(1, 1000, -1), BAD);
    }

    private static void leastFromAndTo() {
        due.sentence("LEAST: a WAY from a PLACE to another one");
        RoadsThanked x = Due.line();
        for (int from = 0; from < 8; from++) {
            for (int to = 0; to < 8; to++) {
                if (from != to) {
                    int ft = 10 * from + to;
                    int now = Due.onLine(from, to);
                    due.is("least(" + ft + ", " + now + ", -1)", x.least(ft, now, -1), 0);
                    due.is("least(" + ft + ", " + (now - 1) + ", -1)", x.least(ft, now - 1, -1), 1);
                    due.is("least(" + ft + ", " + (now - 1) + ", 0)", x.least(ft, now - 1, 0), Math.min(from, to));
                    due.is("least(" + ft + ", " + (now - 4) + ", -1)", x.least(ft, now - 4, -1), NOT);
                }
            }
        }
    }

    private static void leastTimes() {
        due.sentence("t HOURS or less");
        RoadsThanked x = Due.net(1, 2, 12, 1);
        due.is("least(2, 3, -1)", x.least(2, 3, -1), 0);
        due.is("least(2, 4, -1)", x.least(2, 4, -1), 0);
        due.is("least(2, 999, -1)", x.least(2, 999, -1), 0);
        due.is("least(2, 2, -1)", x.least(2, 2, -1), 1);
        due.is("least(2, 1, -1)", x.least(2, 1, -1), NOT);
        due.is("least(2, 0, -1)", x.least(2, 0, -1), NOT);
        RoadsThanked far = Due.net(1, 99, 12, 99, 23, 99, 34, 99, 45, 99, 56, 99, 67, 99);
        due.is("least(7, 693, -1)", far.least(7, 693, -1), 0);
        due.is("least(7, 692, -1)", far.least(7, 692, -1), 1);
        due.is("least(7, 690, -1)", far.least(7, 690, -1), 3);
        due.is("least(7, 689, -1)", far.least(7, 689, -1), NOT);
    }

    private static void leastNoneWanted() {
        due.sentence("the fewest THANKS (0 .. 3): 0");
        RoadsThanked x = Due.net(1, 10);
        due.is("least(1, 10, -1)", x.least(1, 10, -1), 0);
        due.each("least(1, 10, #)", k -> x.least(1, 10, k), NOT, 0, 1, MOST);
    }

    private static void leastUpToThree() {
        due.sentence("the fewest THANKS (0 .. 3): 3");
        RoadsThanked x = Due.net(1, 10, 12, 20);
        due.is("one", x.least(2, 29, -1), 1);
        due.is("two", x.least(2, 28, -1), 2);
        due.is("three", x.least(2, 27, -1), 3);
        due.is("no four", x.least(2, 26, -1), NOT);
        due.is("no four", x.least(2, 26, 0), NOT);
    }

    private static void leastSameRoad() {
        due.sentence("one and the same ROAD more than once, too");
        RoadsThanked x = Due.net(1, 10);
        due.is("twice", x.least(1, 8, -1), 2);
        due.is("twice", x.least(1, 8, 0), 0);
        due.is("twice", x.least(1, 8, 1), 0);
        due.is("three times", x.least(1, 7, -1), 3);
        due.is("three times", x.least(1, 7, 2), 0);
        RoadsThanked last = Due.fullNet();
        last.mend(11, 0, 9);
        due.is("the last of twelve, three times", last.least(1, 6, -1), 3);
        for (int k = 0; k < 3; k++) {
            due.is("the last of twelve, " + k, last.least(1, 6, k), 11);
        }
    }

    private static void leastByNumbers() {
        due.sentence("by numbers: ROADS rise, or stay");
        RoadsThanked x = Due.net(1, 2, 12, 2, 23, 2);
        int[] order = {0, 1, 2};
        due.is("each once", x.least(3, 3, -1), 3);
        for (int k = 0; k < 3; k++) {
            due.is("each once, " + k, x.least(3, 3, k), order[k]);
        }
        x.mend(0, 0, 3);
        x.mend(1, 0, 1);
        int[] then = {0, 0, 2};
        for (int k = 0; k < 3; k++) {
            due.is("0 twice, and 2, " + k, x.least(3, 3, k), then[k]);
        }
    }

    private static void leastOneBehindTheOther() {
        due.sentence("by numbers, one behind the other");
        // Road 0 at 9 is jealous of 1: thanks to 1 make it 8; thanks to 0 ahead of them are held, and lost.
        RoadsThanked x = Due.net(1, 50, 12, 50);
        x.mend(0, 2, 1);
        x.mend(0, 1, 9);
        due.is("0, 1 and 1, 0 are not alike", x.least(2, 90, -1), NOT);
        // Road 1 at -9 is jealous of 0: thanks to 0 do it no harm, and come first.
        RoadsThanked y = Due.net(1, 50, 12, 50);
        y.mend(1, 2, 0);
        y.mend(1, 1, -9);
        due.is("now", y.way(2, -1), 109);
        due.is("0, then 1", y.least(2, 107, -1), 2);
        due.is("0, then 1", y.least(2, 107, 0), 0);
        due.is("0, 0, 0", y.least(2, 106, 2), 0);
        // Of the two, 1 then 0 would not do: 1 would be -8 first, and -9 again.
        due.is("0, 1 for road 1 alone: 1", y.least(12, 58, 0), 1);
    }

    private static void leastKth() {
        due.sentence("the k-th ROAD (NOT: there are not as many)");
        RoadsThanked x = Due.net(1, 10, 12, 20);
        due.each("least(2, 29, #)", k -> x.least(2, 29, k), NOT, 1, 2, 3, MOST);
        due.each("least(2, 28, #)", k -> x.least(2, 28, k), NOT, 2, 3, MOST);
        due.each("least(2, 27, #)", k -> x.least(2, 27, k), NOT, 3, 4, MOST);
        due.each("least(2, 27, #)", k -> x.least(2, 27, k), 0, 0, 1, 2);
    }

    private static void leastLikeOnes() {
        due.sentence("(of like ones the first by numbers)");
        RoadsThanked x = Due.net(67, 5, 12, 20, 1, 10, 23, 30);
        due.is("1, 2 or 3", x.least(3, 59, 0), 1);
        due.is("1, 1", x.least(3, 58, 1), 1);
        due.is("1, 1, 1", x.least(3, 57, 2), 1);
        x.mend(1, 1, 9);
        x.mend(1, 0, 29);
        due.is("not 1, which is held", x.least(3, 59, 0), 2);
        x.mend(1, 1, 8);
        x.mend(1, 0, 28);
        due.is("1 once", x.least(3, 58, 0), 1);
        due.is("then 2", x.least(3, 58, 1), 2);
        due.is("1, 2, 2", x.least(3, 57, 2), 2);
    }

    private static void leastNone() {
        due.sentence("LEAST: NOT");
        RoadsThanked x = Due.net(1, 10, 34, 5);
        due.each("no way: least(3, 999, #)", k -> x.least(3, 999, k), NOT, -1, 0, 1);
        x.mend(0, 3, 1);
        due.each("ploughed up: least(1, 999, #)", k -> x.least(1, 999, k), NOT, -1, 0, 1);
        due.is("no roads", new RoadsThanked().least(1, 999, -1), NOT);
        RoadsThanked y = Due.net(1, 4);
        due.each("too few hours: least(1, 0, #)", k -> y.least(1, 0, k), NOT, -1, 0);
        due.is("least(1, 1, -1)", y.least(1, 1, -1), 3);
    }

    private static void leastByOtherWays() {
        due.sentence("by which a WAY takes t HOURS or less: by HOURS as they would be");
        RoadsThanked x = Due.net(1, 20, 1, 21);
        due.is("the other way gets the shorter one", x.least(1, 19, 0), 0);
        x.mend(0, 1, 9);
        x.mend(0, 0, 29);
        due.is("now", x.way(1, -1), 20);
        due.is("0 is held, so 1 twice", x.least(1, 19, -1), 2);
        due.is("0 is held, so 1 twice", x.least(1, 19, 0), 1);
        due.is("law", Due.law(x, "l-3*j"), 1);
        x.mend(1, 2, 0);
        x.mend(0, 1, 0);
        due.is("by thanks to the other road", x.least(1, 18, -1), 1);
        due.is("by thanks to the other road", x.least(1, 18, 0), 0);
        due.is("twice", x.least(1, 15, -1), 2);
        x.mend(0, 3, 1);
        due.is("though that is ploughed up", x.least(1, 12, -1), 3);
        due.is("though that is ploughed up", x.least(1, 11, -1), NOT);
    }

    private static void leastPloughedUp() {
        due.sentence("LEAST: THANKS to any ROAD, PLOUGHED up or not");
        RoadsThanked x = Due.net(1, 20, 67, 5, 1, 30);
        due.is("law", Due.law(x, "l-5*j"), 1);
        x.mend(0, 2, 2);
        x.mend(2, 3, 1);
        due.is("once", x.least(1, 15, -1), 1);
        due.is("once", x.least(1, 15, 0), 2);
        due.is("three times", x.least(1, 5, -1), 3);
        due.is("three times", x.least(1, 5, 0), 2);
        due.is("no four", x.least(1, 4, -1), NOT);
    }

    private static void bestBad() {
        due.sentence("best(): BAD; NOT");
        RoadsThanked none = new RoadsThanked();
        due.each("best(#), no roads", w -> none.best(w), BAD, LEAST, -2, -1, 2, 3, MOST);
        RoadsThanked x = Due.line();
        due.each("best(#)", w -> x.best(w), BAD, LEAST, -1, 2, MOST);
    }

    private static void bestNoRoads() {
        due.sentence("NOT: no ROADS");
        RoadsThanked x = new RoadsThanked();
        x.traveller(0);
        due.each("best(#)", w -> x.best(w), NOT, 0, 1);
        x.road(1, 5);
        due.is("best(0)", x.best(0), 0);
        due.is("best(1)", x.best(1), 4);
    }

    private static void bestLikeOnes() {
        due.sentence("makes HOURS of all together least (of like ones the least)");
        RoadsThanked x = Due.fullNet();
        int all = x.hours(-1);
        for (int r = 0; r < 12; r++) {
            due.is("best(0)", x.best(0), r);
            due.is("best(1)", x.best(1), all - 1);
            x.mend(r, 1, 9);
            all -= 9;
        }
        due.is("all are held", x.best(0), 0);
        due.is("all are held", x.best(1), all);
    }

    private static void bestOfAllTogether() {
        due.sentence("to which ROAD one more THANKS makes HOURS of all together least; that");
        RoadsThanked x = Due.net(1, 10, 12, 20, 23, 30);
        x.mend(1, 2, 0);
        x.mend(2, 2, 0);
        x.mend(0, 2, 1);
        due.is("2 angers none", x.best(0), 2);
        due.is("that", x.best(1), 59);
        x.mend(2, 1, 9);
        due.is("1 angers one", x.best(0), 1);
        due.is("that", x.best(1), 51);
        x.mend(1, 1, 9);
        due.is("2 alone does no harm", x.best(0), 2);
        due.is("that", x.best(1), 10 + 11 + 21);
        x.mend(2, 3, 1);
        due.is("ploughed up or not", x.best(0), 2);
        due.is("law", Due.law(x, "l+m"), 1);
        due.is("0 makes two less and one more", x.best(0), 0);
        due.is("that", x.best(1), 11 + 28 + 38);
        due.is("in thought", x.of(0, 1), 0);
        RoadsThanked most = new RoadsThanked();
        for (int r = 0; r < 12; r++) {
            most.road(1, 99);
        }
        due.is("twelve of 99", most.best(0), 0);
        due.is("twelve of 99", most.best(1), 12 * 99 - 1);
    }

    private static void angerBad() {
        due.sentence("anger(): BAD");
        RoadsThanked x = Due.net(1, 10, 12, 20);
        due.each("anger(#)", r -> x.anger(r), BAD, LEAST, -2, -1, 2, 11, 12, MOST);
        RoadsThanked full = Due.fullNet();
        due.is("anger(11)", full.anger(11), 0);
        due.is("anger(12)", full.anger(12), BAD);
        due.is("no roads", new RoadsThanked().anger(0), BAD);
    }

    private static void angerOfOne() {
        due.sentence("ANGER: which ROADS (bits) are JEALOUS of one");
        RoadsThanked x = Due.fullNet();
        for (int r = 0; r < 12; r++) {
            x.mend(r, 2, r < 11 ? 11 : 0);
        }
        due.is("anger(11)", x.anger(11), 2047);
        due.is("anger(0)", x.anger(0), 2048);
        due.is("anger(5)", x.anger(5), 0);
        x.mend(3, 2, 5);
        due.is("anger(11)", x.anger(11), 2047 - 8);
        due.is("anger(5)", x.anger(5), 8);
        x.mend(3, 2, -1);
        due.is("anger(5)", x.anger(5), 0);
    }

    private static void peaceBad() {
        due.sentence("peace(): BAD");
        RoadsThanked x = Due.net(1, 10);
        due.each("peace(#)", w -> x.peace(w), BAD, LEAST, -2, -1, 2, 3, MOST);
        due.is("no roads", new RoadsThanked().peace(2), BAD);
    }

    private static void peaceNoRoads() {
        due.sentence("PEACE: no ROADS, all ROADS");
        RoadsThanked x = new RoadsThanked();
        for (int many = 0; many <= 12; many++) {
            due.is("peace(0)", x.peace(0), many);
            due.is("peace(1)", x.peace(1), (1 << many) - 1);
            x.road(1, 5);
        }
    }

    private static void peaceMost() {
        due.sentence("PEACE: the most ROADS of which none is JEALOUS of another of them");
        RoadsThanked x = Due.fullNet();
        for (int r = 1; r < 12; r++) {
            x.mend(r, 2, 0);
        }
        due.is("all but 0", x.peace(0), 11);
        due.is("all but 0", x.peace(1), 4094);
        x.mend(1, 2, 2);
        due.is("1 is jealous of 2", x.peace(0), 10);
        due.is("1, not 2", x.peace(1), 4090);
        x.mend(2, 2, -1);
        x.mend(1, 2, -1);
        due.is("1 and 2", x.peace(1), 4094);
        RoadsThanked ring = Due.net(1, 5, 1, 5, 1, 5);
        ring.mend(0, 2, 1);
        ring.mend(1, 2, 2);
        ring.mend(2, 2, 0);
        due.is("a ring of three", ring.peace(0), 1);
        ring.mend(2, 2, -1);
        due.is("a chain of three", ring.peace(1), 5);
    }

    private static void peaceLikeOnes() {
        due.sentence("which (bits; of like ones the least)");
        RoadsThanked two = Due.net(1, 5, 1, 5);
        two.mend(1, 2, 0);
        due.is("0 or 1", two.peace(1), 1);
        two.mend(1, 2, -1);
        two.mend(0, 2, 1);
        due.is("0 or 1, the other way", two.peace(1), 1);
        two.mend(1, 2, 0);
        due.is("0 or 1, each of the other", two.peace(1), 1);
        RoadsThanked pairs = Due.fullNet();
        for (int r = 0; r < 12; r += 2) {
            pairs.mend(r, 2, r + 1);
        }
        due.is("of each pair the first", pairs.peace(1), 0b010101010101);
        due.is("of each pair one", pairs.peace(0), 6);
    }

    private static void peacePloughedUp() {
        due.sentence("PEACE, ANGER, RING: of all ROADS, PLOUGHED up or not");
        RoadsThanked x = Due.fullNet();
        for (int r = 0; r < 12; r++) {
            x.mend(r, 2, (r + 1) % 12);
            x.mend(r, 3, r % 3 == 0 ? 1 : 0);
        }
        due.is("peace(0)", x.peace(0), 6);
        due.is("peace(1)", x.peace(1), 0b010101010101);
        due.is("anger(0)", x.anger(0), 2048);
        due.is("anger(1), of one that is ploughed up", x.anger(1), 1);
        due.is("ring(5, 0)", x.ring(5, 0), 12);
        due.is("ring(5, 1)", x.ring(5, 1), 11);
    }

    private static void ringBad() {
        due.sentence("ring(): BAD");
        RoadsThanked x = Due.net(1, 10, 12, 10);
        for (int what = 0; what <= 1; what++) {
            int w = what;
            due.each("ring(#, " + w + ")", r -> x.ring(r, w), BAD, LEAST, -2, -1, 2, 11, 12, MOST);
        }
        due.each("ring(0, #), ahead of NOT", w -> x.ring(0, w), BAD, LEAST, -1, 2, 3, MOST);
    }

    private static void ringHowMany() {
        due.sentence("RING: how many ROADS are in the ring of jealousies one is in (each JEALOUS of the next)");
        for (int many = 2; many <= 12; many++) {
            RoadsThanked x = Due.fullNet();
            for (int r = 0; r < many; r++) {
                x.mend(r, 2, (r + 1) % many);
            }
            for (int r = 0; r < 12; r++) {
                due.is("ring(" + r + ", 0) of " + many, x.ring(r, 0), r < many ? many : NOT);
                due.is("ring(" + r + ", 1) of " + many, x.ring(r, 1), r < many ? many - 1 : 0);
            }
        }
    }

    private static void ringNone() {
        due.sentence("NOT: it is in none");
        RoadsThanked x = Due.net(1, 5, 1, 5, 1, 5, 1, 5);
        due.is("jealous of none", x.ring(0, 0), NOT);
        x.mend(0, 2, 1);
        due.is("of one that is jealous of none", x.ring(0, 0), NOT);
        x.mend(1, 2, 2);
        x.mend(2, 2, 1);
        due.is("it leads into a ring", x.ring(0, 0), NOT);
        due.is("the ring", x.ring(1, 0), 2);
        x.mend(3, 2, 0);
        due.is("it leads into a ring by another one", x.ring(3, 0), NOT);
        x.mend(2, 2, 0);
        due.is("0, 1, 2", x.ring(0, 0), 3);
        due.is("3 leads into it", x.ring(3, 0), NOT);
        due.is("3 leads into it", x.ring(3, 1), 3);
    }

    private static void chainHowMany() {
        due.sentence("CHAIN: how many ROADS one comes to from it, till one is JEALOUS of none");
        RoadsThanked x = Due.fullNet();
        for (int r = 0; r < 11; r++) {
            x.mend(r, 2, r + 1);
        }
        for (int r = 0; r < 12; r++) {
            due.is("ring(" + r + ", 1)", x.ring(r, 1), 11 - r);
            due.is("ring(" + r + ", 0)", x.ring(r, 0), NOT);
        }
    }

    private static void chainHasBeenMet() {
        due.sentence("or has been met (itself, too; it does not count)");
        RoadsThanked x = Due.fullNet();
        for (int r = 0; r < 11; r++) {
            x.mend(r, 2, r + 1);
        }
        for (int back = 0; back < 11; back++) {
            x.mend(11, 2, back);
            for (int r = 0; r < 12; r++) {
                due.is("ring(" + r + ", 1), 11 leads to " + back, x.ring(r, 1), r < back ? 11 - r : 11 - back);
            }
        }
    }
}
