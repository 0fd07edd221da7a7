/** Sentence by sentence, the edges of promises 21 to 24: Sundays, two by turns, years by draws. */
final class SundayEdgesTest {
    private static final int BAD = Due.BAD, NOT = Due.NOT, VOID = Due.VOID;
    private static final int LEAST = Due.LEAST, MOST = Due.MOST;
    private static final Due due = new Due("SundayEdgesTest");

    public static void main(String[] args) {
        judgeBad();
        judgeNothingThere();
        judgeNoRowOfShorts();
        judgeFirst();
        judgeNoSuchRoad();
        judgeAllSo();
        judgeShorts();
        sundayBad();
        sundayNothingThere();
        sundayNoRowOfShorts();
        byOneNone();
        byOneLeast();
        byOneNot();
        byOneFromMoodsNow();
        byTwoPairs();
        byTwoBothReal();
        byTwoOneBehindTheOther();
        sundayNoRoads();
        turnsBad();
        turnsNoWay();
        turnsFromAndTo();
        turnsOne();
        turnsTwo();
        turnsNoneFirst();
        turnsLeast();
        turnsNoRoads();
        drawnBad();
        drawnLeastAndMost();
        drawnNoSuchRoad();
        drawnNoRoads();
        drawnSeedWraps();
        drawnWhichRoad();
        drawnThanksOrSlight();
        drawnHoursAtTheEnds();
        drawnFromNow();
        due.end();
    }

    private static void judgeBad() {
        due.sentence("judge(): BAD");
        RoadsThanked x = Due.net(1, 10);
        due.each("judge(#)", s -> x.judge(s), BAD, LEAST, -2, -1, 6, 7, MOST);
        x.row(5, 1, 0);
        due.is("judge(5)", x.judge(5), NOT);
    }

    private static void judgeNothingThere() {
        due.sentence("judge(): -11");
        RoadsThanked x = Due.net(1, 10);
        due.each("judge(#)", s -> x.judge(s), -11, 0, 1, 2, 3, 4, 5);
        x.row(0, 1, 3);
        x.keep(0, -1);
        due.is("nothing again", x.judge(0), -11);
    }

    private static void judgeNoRowOfShorts() {
        due.sentence("judge(): -12 (no ROW of shorts)");
        RoadsThanked x = Due.net(1, 10);
        x.body(0);
        x.keep(1, 0);
        due.is("a stone", x.judge(1), -12);
        for (int sort : new int[] {0, 2, 3, 4}) {
            x.row(0, sort, 1);
            due.is("a row of sort " + sort, x.judge(0), -12);
            x.row(0, sort, 0);
            due.is("a row of none, of sort " + sort, x.judge(0), -12);
        }
    }

    private static void judgeFirst() {
        due.sentence("JUDGED: the first that is not so");
        for (int wrong = 0; wrong < 12; wrong++) {
            RoadsThanked x = Due.fullNet();
            x.row(0, 1, 12);
            for (int r = 0; r < 12; r++) {
                x.put(0, r, r < wrong ? 10 + r : 9 + r);
            }
            due.is("judge, from " + wrong + " on", x.judge(0), wrong);
            x.put(0, wrong, 10 + wrong);
            due.is("judge, then", x.judge(0), wrong == 11 ? NOT : wrong + 1);
            x.put(0, wrong, 11 + wrong);
            due.is("one more is not so, either", x.judge(0), wrong);
        }
    }

    private static void judgeNoSuchRoad() {
        due.sentence("(of a ROAD that is not there, too)");
        RoadsThanked x = Due.net(1, 10, 12, 20);
        for (int told : new int[] {-1, 0, 1, 10, 20}) {
            Due.row(x, 0, 1, 10, 20, told);
            due.is("judge, " + told + " for road 2", x.judge(0), 2);
        }
        Due.row(x, 0, 1, 10, 21, 0);
        due.is("the first counts", x.judge(0), 1);
        RoadsThanked full = Due.fullNet();
        full.row(0, 1, 60);
        for (int r = 0; r < 12; r++) {
            full.put(0, r, 10 + r);
        }
        due.is("judge, of 60", full.judge(0), 12);
        RoadsThanked none = new RoadsThanked();
        none.row(0, 1, 1);
        due.is("no roads", none.judge(0), 0);
    }

    private static void judgeAllSo() {
        due.sentence("JUDGED: NOT");
        RoadsThanked x = Due.net(1, 10, 12, 20);
        Due.row(x, 0, 1);
        due.is("none told", x.judge(0), NOT);
        Due.row(x, 0, 1, 10);
        due.is("one told", x.judge(0), NOT);
        Due.row(x, 0, 1, 10, 20);
        due.is("all told", x.judge(0), NOT);
        x.mend(0, 3, 1);
        due.is("ploughed up or not", x.judge(0), NOT);
        x.mend(0, 1, 1);
        due.is("as moods are now", x.judge(0), 0);
        RoadsThanked none = new RoadsThanked();
        none.row(0, 1, 0);
        due.is("no roads, none told", none.judge(0), NOT);
    }

    private static void judgeShorts() {
        due.sentence("a ROW of shorts: HOURS of ROADS 0 on");
        RoadsThanked x = Due.net(1, 99, 12, 1);
        Due.row(x, 0, 1, 99, 1);
        due.is("99 and 1", x.judge(0), NOT);
        Due.row(x, 0, 1, 65536 + 99, 1 - 65536);
        due.is("lowest bits", x.judge(0), NOT);
        Due.row(x, 0, 1, 99 + 256, 1);
        due.is("a short is no byte", x.judge(0), 0);
        Due.row(x, 0, 1, 100, 1);
        due.is("100", x.judge(0), 0);
        Due.row(x, 0, 1, 99, -1);
        due.is("-1", x.judge(0), 1);
    }

    private static void sundayBad() {
        due.sentence("sunday(): BAD");
        RoadsThanked x = Due.net(1, 10);
        x.row(5, 1, 0);
        x.row(4, 0, 0);
        for (int what = 0; what <= 2; what++) {
            int w = what;
            due.each("sunday(#, " + w + ")", s -> x.sunday(s, w), BAD, LEAST, -1, 6, MOST);
        }
        due.each("sunday(5, #)", w -> x.sunday(5, w), BAD, LEAST, -1, 3, 4, MOST);
        due.each("sunday(0, #), ahead of -11", w -> x.sunday(0, w), BAD, LEAST, -1, 3, MOST);
        due.each("sunday(4, #), ahead of -12", w -> x.sunday(4, w), BAD, LEAST, -1, 3, MOST);
    }

    private static void sundayNothingThere() {
        due.sentence("sunday(): -11");
        RoadsThanked x = Due.net(1, 10);
        due.each("sunday(0, #)", w -> x.sunday(0, w), -11, 0, 1, 2);
        due.each("sunday(5, #)", w -> x.sunday(5, w), -11, 0, 1, 2);
    }

    private static void sundayNoRowOfShorts() {
        due.sentence("sunday(): -12 (no ROW of shorts)");
        RoadsThanked x = Due.net(1, 10);
        x.body(0);
        x.keep(1, 0);
        due.each("sunday(1, #), a stone", w -> x.sunday(1, w), -12, 0, 1, 2);
        for (int sort : new int[] {0, 2, 3, 4}) {
            x.row(0, sort, 1);
            due.each("sunday(0, #), a row of sort " + sort, w -> x.sunday(0, w), -12, 0, 1, 2);
        }
    }

    private static void byOneNone() {
        due.sentence("BY ONE: or none: -1, the least");
        RoadsThanked x = Due.net(1, 10, 12, 20);
        Due.row(x, 0, 1, 10, 20);
        due.is("how many", x.sunday(0, 0), 1);
        due.is("the least", x.sunday(0, 1), -1);
        Due.row(x, 0, 1, 10);
        due.is("none, and both deeds to 1", x.sunday(0, 0), 3);
        due.is("the least", x.sunday(0, 1), -1);
        x.mend(0, 1, 9);
        Due.row(x, 0, 1, 1, 20);
        due.is("none, and thanks that are held", x.sunday(0, 0), 2);
        due.is("the least", x.sunday(0, 1), -1);
    }

    private static void byOneLeast() {
        due.sentence("BY ONE: by how many deeds (3 times the ROAD, and 1 THANKS or 2 a SLIGHT); the least");
        for (int deed = 0; deed < 36; deed++) {
            if (deed % 3 != 0) {
                RoadsThanked x = Due.fullNet();
                x.row(0, 1, 12);
                for (int r = 0; r < 12; r++) {
                    x.put(0, r, 10 + r - (r != deed / 3 ? 0 : deed % 3 == 1 ? 1 : -2));
                }
                due.is("how many, deed " + deed, x.sunday(0, 0), 1);
                due.is("the least, deed " + deed, x.sunday(0, 1), deed);
            }
        }
        // By a law by which road 2 alone tells anything: the mood of 1.
        RoadsThanked y = Due.net(1, 50, 12, 50, 23, 50);
        y.mend(2, 2, 1);
        Due.law(y, "r=2?50-j;50");
        Due.row(y, 0, 1, 50, 50, 49);
        due.is("thanks to 1", y.sunday(0, 1), 4);
        Due.row(y, 0, 1, 50, 50, 50);
        due.is("none, any to 0 and 2", y.sunday(0, 0), 5);
        y.mend(1, 1, 1);
        due.is("none of thanks to 1, a slight", y.sunday(0, 1), -9);
        Due.row(y, 0, 1, 50, 50, 49);
        due.is("none, any to 0 and 2", y.sunday(0, 0), 5);
        Due.law(y, "r=2?50+j*j;50");
        Due.row(y, 0, 1, 50, 50, 54);
        due.is("thanks to 1", y.sunday(0, 0), 1);
        Due.row(y, 0, 1, 50, 50, 51);
        due.is("a slight of 1, none, any to 0 and 2", y.sunday(0, 0), 6);
        y.mend(1, 1, 0);
        due.is("thanks to 1 alone", y.sunday(0, 0), 1);
        due.is("thanks to 1", y.sunday(0, 1), 4);
    }

    private static void byOneNot() {
        due.sentence("BY ONE: (-9: NOT)");
        RoadsThanked x = Due.net(1, 10, 12, 20);
        Due.row(x, 0, 1, 9, 19);
        due.is("how many", x.sunday(0, 0), 0);
        due.is("the least", x.sunday(0, 1), -9);
        Due.row(x, 0, 1, 10, 20, 30);
        due.is("a road that is not there", x.sunday(0, 0), 0);
        due.is("a road that is not there", x.sunday(0, 1), -9);
        due.is("a road that is not there, by two", x.sunday(0, 2), 0);
    }

    private static void byOneFromMoodsNow() {
        due.sentence("ahead of it all is so, from MOODS now");
        RoadsThanked x = Due.net(1, 10, 12, 20);
        x.mend(0, 1, 4);
        Due.row(x, 0, 1, 5, 20);
        due.is("thanks", x.sunday(0, 1), 1);
        Due.row(x, 0, 1, 8, 20);
        due.is("a slight", x.sunday(0, 1), 2);
        Due.row(x, 0, 1, 7, 20);
        due.is("by two", x.sunday(0, 2), 2);
        due.is("in thought", x.of(0, 1), 4);
        x.mend(0, 3, 1);
        due.is("ploughed up or not", x.sunday(0, 2), 2);
    }

    private static void byTwoPairs() {
        due.sentence("BY TWO: by how many pairs of deeds");
        RoadsThanked x = Due.fullNet();
        x.row(0, 1, 0);
        due.is("all pairs of 24", x.sunday(0, 2), 576);
        due.is("all of 25", x.sunday(0, 0), 25);
        Due.row(x, 0, 1, 10);
        due.is("all pairs of 22", x.sunday(0, 2), 484);
        Due.row(x, 0, 1, 9);
        due.is("thanks to 0, and one of 22, both ways round", x.sunday(0, 2), 44);
        Due.row(x, 0, 1, 8);
        due.is("thanks to 0 twice", x.sunday(0, 2), 1);
        Due.row(x, 0, 1, 9, 13);
        due.is("0 and 1, both ways round", x.sunday(0, 2), 2);
        x.row(0, 1, 12);
        for (int r = 0; r < 12; r++) {
            x.put(0, r, 10 + r + (r == 10 ? 2 : r == 11 ? -1 : 0));
        }
        due.is("10 and 11, both ways round", x.sunday(0, 2), 2);
    }

    private static void byTwoBothReal() {
        due.sentence("(both real ones)");
        RoadsThanked x = Due.net(1, 50);
        Due.row(x, 0, 1, 49);
        due.is("thanks and none do not count", x.sunday(0, 2), 0);
        due.is("thanks alone", x.sunday(0, 0), 1);
        Due.row(x, 0, 1, 50);
        due.is("none and none do not count", x.sunday(0, 2), 0);
        Due.row(x, 0, 1, 51);
        due.is("thanks and a slight", x.sunday(0, 2), 2);
        Due.row(x, 0, 1, 54);
        due.is("a slight and a slight", x.sunday(0, 2), 1);
        x.mend(0, 1, 9);
        Due.row(x, 0, 1, 41);
        due.is("thanks that are held are real", x.sunday(0, 2), 1);
    }

    private static void byTwoOneBehindTheOther() {
        due.sentence("pairs of deeds, one behind the other");
        RoadsThanked x = Due.net(1, 50);
        x.mend(0, 1, 9);
        Due.row(x, 0, 1, 43);
        due.is("thanks, then a slight: 7", x.sunday(0, 2), 1);
        Due.row(x, 0, 1, 42);
        due.is("a slight, then thanks: 8", x.sunday(0, 2), 1);
        x.mend(0, 1, -9);
        Due.row(x, 0, 1, 59);
        due.is("thanks, then a slight; two slights: -9", x.sunday(0, 2), 2);
        Due.row(x, 0, 1, 58);
        due.is("a slight, then thanks: -8", x.sunday(0, 2), 1);
        Due.row(x, 0, 1, 57);
        due.is("thanks, thanks: -7", x.sunday(0, 2), 1);
    }

    private static void sundayNoRoads() {
        due.sentence("sunday(): no ROADS");
        RoadsThanked x = new RoadsThanked();
        x.row(0, 1, 0);
        due.is("how many", x.sunday(0, 0), 1);
        due.is("the least", x.sunday(0, 1), -1);
        due.is("by two", x.sunday(0, 2), 0);
        x.row(0, 1, 1);
        due.is("how many", x.sunday(0, 0), 0);
        due.is("the least", x.sunday(0, 1), -9);
        due.is("by two", x.sunday(0, 2), 0);
    }

    private static void turnsBad() {
        due.sentence("byTurns(): n (1 .. 2). BAD");
        RoadsThanked x = Due.line();
        due.each("byTurns(#, 1, 0)", ft -> x.byTurns(ft, 1, 0), BAD, Due.noPairs());
        due.each("byTurns(1, #, 0)", n -> x.byTurns(1, n, 0), BAD, LEAST, -1, 0, 3, 4, MOST);
        due.each("byTurns(1, #, 1)", n -> x.byTurns(1, n, 1), BAD, LEAST, -1, 0, 3, 4, MOST);
        due.each("byTurns(1, 1, #)", w -> x.byTurns(1, 1, w), BAD, LEAST, -1, 2, 3, MOST);
    }

    private static void turnsNoWay() {
        due.sentence("(999: there is none)");
        RoadsThanked x = Due.net(1, 10, 34, 5);
        for (int n = 1; n <= 2; n++) {
            due.is("hours", x.byTurns(3, n, 0), 999);
            due.is("none first", x.byTurns(3, n, 1), 99);
        }
        x.mend(0, 3, 1);
        due.is("ploughed up", x.byTurns(1, 2, 0), 999);
        due.is("ploughed up", x.byTurns(1, 2, 1), 99);
        RoadsThanked far = Due.net(1, 99, 12, 99, 23, 99, 34, 99, 45, 99, 56, 99, 67, 99);
        due.is("the longest way", far.byTurns(7, 1, 0), 692);
        due.is("the longest way", far.byTurns(7, 1, 1), 1);
        due.is("the longest way is held", far.byTurns(7, 2, 0), 693);
        due.is("the longest way is held", far.byTurns(7, 2, 1), 99);
    }

    private static void turnsFromAndTo() {
        due.sentence("BY TURNS: the WAY from a PLACE to another one");
        RoadsThanked x = Due.line();
        for (int from = 0; from < 8; from++) {
            for (int to = 0; to < 8; to++) {
                if (from != to) {
                    int ft = 10 * from + to;
                    due.is("byTurns(" + ft + ", 1, 0)", x.byTurns(ft, 1, 0), Due.onLine(from, to) - 1);
                    due.is("byTurns(" + ft + ", 1, 1)", x.byTurns(ft, 1, 1), 3 * Math.min(from, to) + 1);
                    due.is("byTurns(" + ft + ", 2, 0)", x.byTurns(ft, 2, 0), Due.onLine(from, to) + 1);
                }
            }
        }
    }

    private static void turnsOne() {
        due.sentence("n 1: the first one's deed, or none: few HOURS");
        RoadsThanked x = Due.net(1, 10, 12, 20);
        due.is("thanks to 0", x.byTurns(2, 1, 1), 1);
        due.is("hours", x.byTurns(2, 1, 0), 29);
        x.mend(0, 1, 9);
        due.is("thanks to 1", x.byTurns(2, 1, 1), 4);
        due.is("hours", x.byTurns(2, 1, 0), 20);
        due.is("law", Due.law(x, "l+m"), 1);
        due.is("a slight of 0", x.byTurns(2, 1, 1), 2);
        due.is("hours", x.byTurns(2, 1, 0), 37);
        due.is("in thought", x.of(0, 1), 9);
    }

    private static void turnsTwo() {
        due.sentence("n 2: the other one many HOURS, if both do their best");
        RoadsThanked x = Due.net(1, 10);
        due.is("thanks, then a slight", x.byTurns(1, 2, 0), 11);
        due.is("thanks", x.byTurns(1, 2, 1), 1);
        x.road(1, 11);
        due.is("10 stays, whichever is slighted", x.byTurns(1, 2, 0), 10);
        due.is("thanks to the longer one", x.byTurns(1, 2, 1), 4);
        due.is("alone he'd thank the shorter one", x.byTurns(1, 1, 1), 1);
        RoadsThanked y = Due.net(1, 50, 67, 5);
        y.mend(0, 2, 1);
        y.mend(0, 1, -9);
        due.is("law", Due.law(y, "50-3*j-m"), 1);
        due.is("he thanks 1, the other one slights it", y.byTurns(1, 2, 1), 4);
        due.is("hours", y.byTurns(1, 2, 0), 50 + 3 + 9);
        due.is("alone", y.byTurns(1, 1, 0), 50 - 3 + 9);
        RoadsThanked z = Due.net(1, 50);
        due.is("law", Due.law(z, "m=0|m=1?40;60+m"), 1);
        due.is("of none, thanks, a slight: 58, 62, 59", z.byTurns(1, 2, 0), 58);
        due.is("so none is best", z.byTurns(1, 2, 1), 99);
        RoadsThanked odd = Due.net(1, 50);
        due.is("law", Due.law(odd, "m=1?40;30+m"), 1);
        due.is("of none, thanks, a slight: 40, 40, 29", odd.byTurns(1, 2, 0), 29);
        due.is("so a slight is best", odd.byTurns(1, 2, 1), 2);
    }

    private static void turnsNoneFirst() {
        due.sentence("99: none; of like ones none first");
        RoadsThanked x = Due.net(1, 10, 12, 20);
        x.mend(0, 1, 9);
        x.mend(1, 1, 9);
        due.is("nothing to better", x.byTurns(2, 1, 1), 99);
        due.is("hours", x.byTurns(2, 1, 0), 12);
        due.is("nothing to better, by two", x.byTurns(2, 2, 1), 99);
        due.is("hours", x.byTurns(2, 2, 0), 14);
        due.is("law", Due.law(x, "7"), 1);
        due.is("all is alike", x.byTurns(2, 1, 1), 99);
        due.is("all is alike", x.byTurns(2, 2, 1), 99);
        due.is("hours", x.byTurns(2, 2, 0), 14);
    }

    private static void turnsLeast() {
        due.sentence("of like ones none first, then the least");
        RoadsThanked x = Due.net(67, 5, 1, 10, 12, 20, 23, 30);
        for (int n = 1; n <= 2; n++) {
            due.is("1, 2 or 3", x.byTurns(3, n, 1), 4);
        }
        x.mend(1, 1, 9);
        for (int n = 1; n <= 2; n++) {
            due.is("2 or 3", x.byTurns(3, n, 1), 7);
        }
        x.mend(2, 1, 9);
        for (int n = 1; n <= 2; n++) {
            due.is("3", x.byTurns(3, n, 1), 10);
        }
        due.is("law", Due.law(x, "50-m*m"), 1);
        x.mend(1, 1, 0);
        x.mend(2, 1, 0);
        due.is("a slight of 1, 2 or 3 makes four less", x.byTurns(3, 1, 1), 5);
        RoadsThanked last = Due.fullNet();
        last.mend(11, 0, 9);
        due.is("the last of twelve", last.byTurns(1, 1, 1), 34);
        due.is("law", Due.law(last, "l+m"), 1);
        due.is("a slight of the last of twelve", last.byTurns(1, 1, 1), 35);
    }

    private static void turnsNoRoads() {
        due.sentence("BY TURNS: no ROADS");
        RoadsThanked x = new RoadsThanked();
        for (int n = 1; n <= 2; n++) {
            due.is("hours", x.byTurns(67, n, 0), 999);
            due.is("none", x.byTurns(67, n, 1), 99);
        }
    }

    private static void drawnBad() {
        due.sentence("n years (1 .. 30) of m (1 .. 40) days, MANNERS told (0 .. 12): VOID: BAD");
        RoadsThanked x = Due.net(1, 50);
        due.each("drawn(1, #, 0)", v -> x.drawn(1, v, 0), VOID, LEAST, -304012, -10100, -10099, -1, 0, 1, 12, 100, 4012, 9999,
            10000, 10012, 10113, 10114, 10199, 14013, 14100, 14112, 19999, 20000, 300000, 304013, 304100, 310100, 314012, 410100, 1010100, MOST);
        due.each("drawn(1, #, -1)", v -> x.drawn(1, v, -1), VOID, -10100, 100, 10000, 10113, 14100, 310100);
        RoadsThanked none = new RoadsThanked();
        due.each("drawn(1, #, -1), no roads", v -> none.drawn(1, v, -1), VOID, -10100, 100, 10000, 10113, 14100, 310100);
    }

    private static void drawnLeastAndMost() {
        due.sentence("(nmm: 10000 n, 100 m, and MANNERS): the least and the most");
        RoadsThanked x = Due.net(1, 50);
        due.is("1 year, 1 day, manners 0", x.drawn(1, 10100, 0), -2);
        due.is("1 year, 1 day, manners 12", x.drawn(1, 10112, 0), 1);
        due.is("30 years, 1 day, manners 0", x.drawn(1, 300100, 0), -60);
        due.is("30 years, 1 day, manners 12", x.drawn(1, 300112, 0), 30);
        due.is("1 year, 40 days, manners 0", x.drawn(1, 14000, 0), -9);
        due.is("1 year, 40 days, manners 12", x.drawn(1, 14012, 0), 9);
        due.is("30 years, 40 days, manners 0", x.drawn(1, 304000, 0), -270);
        due.is("30 years, 40 days, manners 12", x.drawn(1, 304012, 0), 270);
        due.is("30 years, 40 days, manners 12, hours", x.drawn(1, 304012, -1), 30 * 41);
        due.is("2 years, 3 days, manners 12", x.drawn(1, 20312, 0), 6);
        due.is("29 years, 39 days, manners 0", x.drawn(1, 293900, 0), -261);
    }

    private static void drawnNoSuchRoad() {
        due.sentence("HOURS (road -1), MOODS of a ROAD. VOID: BAD");
        RoadsThanked x = Due.net(1, 50, 12, 50);
        due.each("drawn(1, 10100, #)", r -> x.drawn(1, 10100, r), VOID, LEAST, -3, -2, 2, 11, 12, MOST);
        RoadsThanked none = new RoadsThanked();
        due.each("drawn(1, 10100, #), no roads", r -> none.drawn(1, 10100, r), VOID, -2, 0, 1);
    }

    private static void drawnNoRoads() {
        due.sentence("(no ROADS: 0)");
        RoadsThanked x = new RoadsThanked();
        due.each("drawn(#, 304012, -1)", s -> x.drawn(s, 304012, -1), 0, LEAST, -1, 0, 1, MOST);
    }

    /** z of the document, by longs: what is behind 32 bits is cut off. */
    private static long next(long z) {
        return (z * 1103515245L + 12345L) & 0xffffffffL;
    }

    /** MOODS at the ends, all together, of roads that are jealous of none; road -1: HOURS of roads of 50. */
    private static int apart(int roads, long seed, int nmm, int road) {
        long z = seed & 0xffffffffL;
        int sum = 0;
        for (int year = nmm / 10000; year > 0; year--) {
            int[] moods = new int[roads];
            for (int day = nmm / 100 % 100; day > 0; day--) {
                z = next(z);
                int r = (int) (z / 256 % roads);
                moods[r] = z / 65536 % 12 < nmm % 100 ? Math.min(9, moods[r] + 1) : Math.max(-9, moods[r] - 2);
            }
            for (int r = 0; r < roads; r++) {
                sum += road == -1 ? 50 - moods[r] : r == road ? moods[r] : 0;
            }
        }
        return sum;
    }

    private static RoadsThanked roadsOf50(int many) {
        RoadsThanked x = new RoadsThanked();
        for (int r = 0; r < many; r++) {
            x.road(1, 50);
        }
        return x;
    }

    private static void drawnAs(String why, int roads, int seed, int nmm) {
        RoadsThanked x = roadsOf50(roads);
        for (int r = -1; r < roads; r++) {
            due.is(why + ": drawn(" + seed + ", " + nmm + ", " + r + ") of " + roads, x.drawn(seed, nmm, r), apart(roads, seed, nmm, r));
        }
    }

    private static void drawnSeedWraps() {
        due.sentence("z = z * 1103515245 + 12345 (an int; SEED at first) ahead of each day");
        for (int seed : new int[] {LEAST, LEAST + 1, -65536, -1, 0, 1, 2, 12345, 65536, 1103515245, MOST - 1, MOST}) {
            drawnAs("one day", 5, seed, 10106);
            drawnAs("many days", 5, seed, 14006);
            drawnAs("many years", 5, seed, 304006);
        }
    }

    private static void drawnWhichRoad() {
        due.sentence("the ROAD is (z >>> 8) % how many");
        for (int roads = 1; roads <= 12; roads++) {
            for (int seed = -6; seed < 6; seed++) {
                drawnAs("a day", roads, seed * 77777777, 10112);
                drawnAs("a year", roads, seed * 77777777, 12005);
            }
        }
    }

    private static void drawnThanksOrSlight() {
        due.sentence("THANKS, if (z >>> 16) % 12 is below MANNERS told, else a SLIGHT");
        for (int manners = 0; manners <= 12; manners++) {
            for (int seed = -6; seed < 6; seed++) {
                drawnAs("a day", 1, seed * 99999999, 10100 + manners);
                drawnAs("some days", 3, seed * 99999999, 10500 + manners);
            }
        }
        RoadsThanked x = roadsOf50(1);
        x.traveller(0);
        x.mend(0, 5, 0);
        due.is("a traveller's manners do not count", x.drawn(1, 10112, 0), 1);
    }

    private static void drawnHoursAtTheEnds() {
        due.sentence("HOURS of all at the ends, all together");
        RoadsThanked x = Due.net(1, 10, 12, 20, 23, 30);
        x.mend(1, 3, 1);
        due.is("law", Due.law(x, "l+2*k"), 1);
        due.is("one year", x.drawn(1, 10100, -1), 60 + 2 * 2);
        due.is("five years", x.drawn(1, 50100, -1), 5 * 64);
        due.is("thirty years", x.drawn(1, 304012, -1), 30 * 64);
        due.is("law", Due.law(x, "j=0?1;2"), 1);
        x.mend(0, 2, 2);
        long z = next(9);
        due.is("one year, by j", x.drawn(9, 10112, -1), z / 256 % 3 == 2 ? 4 : 3);
        due.is("in thought", x.of(2, 1), 0);
    }

    private static void drawnFromNow() {
        due.sentence("DRAWN: from now");
        RoadsThanked x = roadsOf50(1);
        x.mend(0, 1, -4);
        due.is("each year from now", x.drawn(1, 30212, 0), -6);
        due.is("each year from now", x.drawn(1, 300112, 0), -90);
        x.mend(0, 1, 8);
        due.is("held", x.drawn(1, 30512, 0), 27);
        due.is("held", x.drawn(1, 304000, 0), -270);
        x.night();
        due.is("from now", x.drawn(1, 10112, 0), 8);
        due.is("twice the same", x.drawn(1, 10112, 0), 8);
        due.is("it stays", x.of(0, 1), 7);
        due.is("nothing is led", x.led(2) + x.led(3), 0);
    }
}
