/** Promises 1 to 8: a new object, roads, travellers, mending, the tape and the law. */
final class RoadsTest {
    private static final int VOID = -2000000000;
    private static final Due due = new Due("RoadsTest");

    public static void main(String[] args) {
        promise1New();
        promise2Road();
        promise3Roads();
        promise4Traveller();
        promise5Mend();
        promise6Of();
        promise7Feed();
        promise8Law();
        promise8Faults();
        promise8Open();
        promise8Worth();
        due.end();
    }

    private static void promise1New() {
        RoadsThanked x = new RoadsThanked();
        for (int what = 0; what <= 5; what++) {
            due.is("new, count(" + what + ")", x.count(what), 0);
        }
        for (int what = 0; what <= 4; what++) {
            due.is("new, led(" + what + ")", x.led(what), 0);
        }
        for (int place = 0; place < 8; place++) {
            due.is("new, reach", x.reach(place, 999, 0), 1 << place);
        }
        due.is("new, shelf 0", x.put(0, 0, 1), -11);
        due.is("new, shelf 5", x.put(5, 0, 1), -11);
        due.is("new, back", x.back(), -5);
        due.is("new, undo", x.undo(), -5);
        due.is("new, redo", x.redo(), -5);
        RoadsThanked other = Due.net(1, 5);
        due.is("objects keep to themselves", x.count(0), 0);
        due.is("objects keep to themselves", other.count(0), 1);
    }

    private static void promise2Road() {
        RoadsThanked x = new RoadsThanked();
        int[] wrong = {0, 11, 77, 8, 80, 18, 81, 9, 90, 100, 78, 87, -1, -10, 1001, Integer.MIN_VALUE, Integer.MAX_VALUE};
        for (int ft : wrong) {
            due.is("road(" + ft + ", 5)", x.road(ft, 5), -1);
        }
        for (int length : new int[] {0, -1, 100, Integer.MIN_VALUE, Integer.MAX_VALUE}) {
            due.is("road(1, " + length + ")", x.road(1, length), -1);
        }
        due.is("none came", x.count(0), 0);
        due.is("road(76, 1)", x.road(76, 1), 0);
        due.is("road(7, 99)", x.road(7, 99), 1);
        for (int i = 2; i < 12; i++) {
            due.is("road", x.road(12, 50), i);
        }
        due.is("road, full", x.road(12, 50), -3);
        due.is("BAD goes ahead of FULL", x.road(11, 50), -1);
        due.is("BAD goes ahead of FULL", x.road(12, 0), -1);
        due.is("count", x.count(0), 12);
        due.is("from", x.of(0, 6), 7);
        due.is("to", x.of(0, 7), 6);
        due.is("length", x.of(0, 0), 1);
        due.is("mood at first", x.of(0, 1), 0);
        due.is("jealous at first", x.of(11, 2), -1);
        due.is("ploughed at first", x.of(0, 3), 0);
        due.is("from", x.of(1, 6), 0);
        due.is("to", x.of(1, 7), 7);
    }

    private static void promise3Roads() {
        RoadsThanked x = new RoadsThanked();
        due.is("shelf", x.roads(-1, 0, 1), -1);
        due.is("shelf", x.roads(6, 0, 1), -1);
        due.is("n 0", x.roads(0, 0, 0), -1);
        due.is("n 13", x.roads(0, 0, 13), -1);
        due.is("a row that is missing", x.roads(0, 0, 1), 0);
        x.row(0, 1, 9);
        due.is("a row of shorts", x.roads(0, 0, 1), -12);
        due.is("BAD goes ahead of -12", x.roads(0, 0, 0), -1);
        x.body(0);
        x.keep(0, 0);
        due.is("a stone", x.roads(0, 0, 1), -12);
        Due.row(x, 0, 0, 9, 0, 1, 10, 7, 6, 99, 2, 2, 5, 3, 4, 1);
        due.is("below 0", x.roads(0, -1, 1), 0);
        due.is("below 0", x.roads(0, Integer.MIN_VALUE, 12), 0);
        due.is("behind its end", x.roads(0, 13, 1), 0);
        due.is("far behind its end", x.roads(0, Integer.MAX_VALUE, 12), 0);
        due.is("within a three", x.roads(0, 11, 12), 0);
        due.is("not so", x.roads(0, 0, 12), 0);
        due.is("none came", x.count(0), 0);
        due.is("two, then one that is not so", x.roads(0, 1, 12), 2);
        due.is("from", x.of(1, 6), 7);
        due.is("to", x.of(1, 7), 6);
        due.is("length", x.of(1, 0), 99);
        due.is("the last three", x.roads(0, 10, 12), 1);
        due.is("no more than told", x.roads(0, 1, 1), 1);
        due.is("count", x.count(0), 4);
        Due.row(x, 1, 0, 0, 1, 5, 1, 2, 6, 2);
        due.is("ends within a three", x.roads(1, 0, 3), 2);
        for (long[] three : new long[][] {{-1, 2, 3}, {8, 2, 3}, {2, -1, 3}, {2, 8, 3}, {2, 2, 3}, {2, 3, 0}, {2, 3, 100}, {2, 3, -5}}) {
            Due.row(x, 2, 0, three);
            due.is("not so", x.roads(2, 0, 1), 0);
        }
        due.is("count", x.count(0), 6);
        Due.row(x, 3, 0, 0, 1, 1, 0, 1, 1, 0, 1, 1, 0, 1, 1, 0, 1, 1, 0, 1, 1, 0, 1, 1, 0, 1, 1);
        due.is("till it is full", x.roads(3, 0, 8), 6);
        due.is("full", x.roads(3, 0, 8), 0);
        due.is("count", x.count(0), 12);
        RoadsThanked y = new RoadsThanked();
        y.row(0, 0, 60);
        y.put(0, 57, 4);
        y.put(0, 59, 5);
        due.is("the last three of sixty", y.roads(0, 57, 12), 1);
        for (int i = 58; i < 66; i++) {
            due.is("at the end of sixty", y.roads(0, i, 12), 0);
        }
    }

    private static void promise4Traveller() {
        RoadsThanked x = new RoadsThanked();
        for (int place : new int[] {-1, 8, Integer.MIN_VALUE, Integer.MAX_VALUE}) {
            due.is("traveller", x.traveller(place), -1);
        }
        due.is("traveller", x.traveller(7), 0);
        due.is("traveller", x.traveller(0), 1);
        due.is("traveller", x.traveller(0), 2);
        due.is("traveller", x.traveller(3), 3);
        due.is("full", x.traveller(3), -3);
        due.is("BAD goes ahead of FULL", x.traveller(8), -1);
        due.is("place", x.of(0, 4), 7);
        due.is("place", x.of(3, 4), 3);
        due.is("manners at first", x.of(0, 5), 6);
        due.is("count", x.count(1), 4);
    }

    private static void promise5Mend() {
        RoadsThanked x = Due.net(1, 10, 12, 20);
        x.traveller(4);
        int[][] told = {{0, 1}, {0, 99}, {1, -9}, {1, 9}, {1, 0}, {2, 1}, {2, -1}, {3, 1}, {3, 0}, {4, 0}, {4, 7}, {5, 0}, {5, 12}};
        int[] was = {10, 0, -1, 0, 4, 6};
        for (int[] t : told) {
            due.is("mend(0, " + t[0] + ", " + t[1] + ")", x.mend(0, t[0], t[1]), was[t[0]]);
            was[t[0]] = t[1];
            due.is("of(0, " + t[0] + ")", x.of(0, t[0]), t[1]);
        }
        due.is("changes", x.count(3), 13);
        int[][] wrong = {{0, 0}, {0, 100}, {1, -10}, {1, 10}, {2, 0}, {2, -2}, {2, 2}, {2, 12}, {3, -1}, {3, 2}, {4, -1}, {4, 8},
            {5, -1}, {5, 13}, {6, 1}, {7, 1}, {8, 1}, {-1, 1}, {Integer.MAX_VALUE, 1}, {Integer.MIN_VALUE, 1}};
        for (int[] t : wrong) {
            due.is("mend(0, " + t[0] + ", " + t[1] + ")", x.mend(0, t[0], t[1]), VOID);
        }
        for (int what = 0; what < 4; what++) {
            due.is("no such road", x.mend(2, what, 1), VOID);
            due.is("no such road", x.mend(-1, what, 1), VOID);
        }
        due.is("no such traveller", x.mend(1, 4, 1), VOID);
        due.is("no such traveller", x.mend(1, 5, 1), VOID);
        due.is("no such traveller", x.mend(-1, 5, 1), VOID);
        due.is("refusals change nothing", x.count(3), 13);
        due.is("the same number", x.mend(0, 0, 99), 99);
        due.is("is no change", x.count(3), 13);
        due.is("the other road", x.mend(1, 2, 0), -1);
        due.is("the other road", x.mend(1, 0, 7), 20);
        due.is("road 0 is as it was", x.of(0, 0), 99);
    }

    private static void promise6Of() {
        RoadsThanked x = Due.net(35, 10);
        x.traveller(2);
        int[] want = {10, 0, -1, 0, 2, 6, 3, 5};
        for (int what = 0; what < 8; what++) {
            due.is("of(0, " + what + ")", x.of(0, what), want[what]);
            due.is("of(1, " + what + ")", x.of(1, what), VOID);
            due.is("of(-1, " + what + ")", x.of(-1, what), VOID);
        }
        due.is("of(0, 8)", x.of(0, 8), VOID);
        due.is("of(0, -1)", x.of(0, -1), VOID);
        due.is("of, far off", x.of(Integer.MAX_VALUE, 0), VOID);
        due.is("of, far off", x.of(0, Integer.MIN_VALUE), VOID);
        x.road(1, 4);
        due.is("a second road is no second traveller", x.of(1, 4), VOID);
        due.is("a second road", x.of(1, 7), 1);
    }

    private static void promise7Feed() {
        RoadsThanked x = new RoadsThanked();
        due.is("feed(-1)", x.feed(-1), -1);
        due.is("feed(256)", x.feed(256), -1);
        due.is("feed(0)", x.feed(0), 1);
        due.is("feed(255)", x.feed(255), 2);
        for (int i = 3; i <= 120; i++) {
            due.is("feed", x.feed('1'), i);
        }
        due.is("full", x.feed('1'), -3);
        due.is("BAD goes ahead of FULL", x.feed(256), -1);
        due.is("count", x.count(2), 120);
    }

    private static void promise8Law() {
        RoadsThanked x = Due.net(1, 10);
        x.mend(0, 1, 3);
        due.is("without a text", x.hours(0), 7);
        due.is("an empty tape", x.law(), -100);
        due.is("law", Due.law(x, "l*2"), 1);
        due.is("the tape is empty then", x.count(2), 0);
        due.is("by the law", x.hours(0), 20);
        due.is("a fault", Due.law(x, "l*"), -102);
        due.is("the tape is empty then, too", x.count(2), 0);
        due.is("the law stays", x.hours(0), 20);
        due.is("another law", Due.law(x, "m"), 1);
        due.is("by the other law", x.hours(0), 3);
        due.is("an empty tape again", x.law(), -100);
        due.is("the law stays", x.hours(0), 3);
        StringBuilder long120 = new StringBuilder("1");
        while (long120.length() < 119) {
            long120.append("+1");
        }
        due.is("119 bytes", Due.law(x, long120.toString()), 1);
        due.is("60 ones", x.hours(0), 60);
        due.is("120 bytes that end too early", Due.law(x, long120 + "+"), -220);
        due.is("120 bytes", Due.law(x, long120 + "1"), 1);
        due.is("59 ones and 11", x.hours(0), 70);
    }

    private static void promise8Faults() {
        String[] texts = {"", ";", "1;", "1;;1", "1?", "1?2?3", "1?2;", "?1", "(1", "(1;", "(1?2)", "()", ")", "1)", "12345", "1234", "0000",
            "1<2<3", "1<2=3", "(1<2)<3", "1<2&3>4", "1<2|3=4", "1<", "1&&1", "1||1", "1+", "1+*2", "1 +2", " 1", "x", "L", "lm", "l1", "1l", "!",
            "!1", "!!1", "-1", "--1", "1--1", "1-!-1", "1+-1", "1*-1", "1-", "l/m%j*n+r-k", "1?2;3?4;5", "1?(2", "a", "1=1=1", "-(1", "-)", "!;",
            "((1)", "(1))", "1!2", "1(2)", "(1)2", "(1)(2)", "99999;", "1+12345", "1?0;", "1;2?", "1?;2", "0?1", "1<(2<3)", "1%2%3/4*5", "5!"};
        int[] faults = {0, 0, 2, 2, 2, 3, 4, 0, 2, 2, 2, 1, 0, 1, 4, -1, -1,
            3, 3, -1, -1, -1, 2, 2, 2, 2, 2, 1, 0, 0, 0, 1, 1, 1, 1,
            -1, -1, -1, -1, -1, -1, -1, -1, 2, -1, -1, 4, 0, 3, 3, 1, 1,
            4, 3, 1, 1, 3, 3, 4, 6, 4, 4, 2, -1, -1, -1, 1};
        for (int i = 0; i < texts.length; i++) {
            RoadsThanked x = new RoadsThanked();
            due.is("law " + texts[i], Due.law(x, texts[i]), faults[i] < 0 ? 1 : -100 - faults[i]);
        }
        for (int letter = 0; letter < 256; letter++) {
            RoadsThanked x = new RoadsThanked();
            x.feed(letter);
            boolean ends = letter >= '0' && letter <= '9' || letter != 0 && "lmjnrk".indexOf(letter) >= 0;
            boolean goesOn = letter == '(' || letter == '!' || letter == '-';
            due.is("law of byte " + letter, x.law(), ends ? 1 : goesOn ? -101 : -100);
        }
        for (int letter = 0; letter < 256; letter++) {
            RoadsThanked x = new RoadsThanked();
            x.feed('l');
            x.feed(letter);
            boolean goesOn = letter != 0 && "|&<=>+-*/%?;".indexOf(letter) >= 0;
            due.is("law of l and byte " + letter, x.law(), goesOn ? -102 : -101);
        }
    }

    private static void promise8Open() {
        String[] texts = {"((((((1))))))", "(((((((1", "!!!!!!1", "!!!!!!!1", "------1", "-------1", "(!-(!-1))", "(!-(!-(1", "(!-(!-!1", "(!-(!--1",
            "((((((1)))))+(1))+(((((-2)))))", "((((((1+l-m", "((((((1)+!1", "(((((!1+!1+-1-(1", "1-1-1-1-1-1-1-1", "(((((!1)))))", "1?((((((1))))))", "1?(((((((1", "1;!!!!!!1", "1;1?!!!!!!!1"};
        int[] faults = {-1, 6, -1, 6, -1, 6, -1, 6, 6, 6, -1, 11, 11, 16, -1, -1, -1, 8, -1, 10};
        for (int i = 0; i < texts.length; i++) {
            RoadsThanked x = new RoadsThanked();
            due.is("law " + texts[i], Due.law(x, texts[i]), faults[i] < 0 ? 1 : -100 - faults[i]);
        }
    }

    private static void worth(RoadsThanked x, String text, int want) {
        due.is("law " + text, Due.law(x, text), 1);
        due.is("hours(1) by " + text, x.hours(1), want);
    }

    /** Of road 1, after two nights: m -2, j 5. */
    private static RoadsThanked six() {
        RoadsThanked x = Due.net(1, 10, 12, 20, 23, 30, 2, 40, 45, 50, 12, 60);
        x.mend(1, 1, -4);
        x.mend(1, 2, 2);
        x.mend(2, 1, 7);
        x.night();
        x.night();
        return x;
    }

    private static void promise8Worth() {
        String[] texts = {"l", "9+m", "j", "n", "r", "k", "9999", "0", "-5", "99", "100", "2+3*4", "(2+3)*4", "20-5-3", "40/5/2", "40%7%3", "0-7/2+9",
            "0-7%4+9", "5/0", "5+5/0", "7+5%0", "1|0", "0|0", "2&4", "10*(2&0)+5", "3<4", "5+(4<4)", "5+(4>3)", "5+(4=4)", "5+(4=3)", "5+!0", "5+!7",
            "-5+9", "--5", "5--5", "!-!5", "0?5;7", "1?5;7", "0?5;0?6;8", "0?5;0?6", "0?5", "m?3;4", "-1?3;4", "1;2", "1|0&0", "(1|0)&0+3",
            "2<1+4", "2*3=6", "1+1=2", "5+(2&1=1)", "5+(1|1<0)", "-3*-4", "k*10+n", "20-3*m", "l-m*2+j/2+n%3-k+r%2",
            "0?1;1?2;3", "0012", "0000?4;6", "2-1?7;3", "!(l=20)?50;!(l=20)+11", "!l<1", "!1+5", "-2*3+50", "l%-3+5", "-l%3+5", "-l/3+50"};
        int[] wants = {20, 7, 5, 2, 1, 4, 99, 1, 1, 99, 99, 14, 20, 12, 4, 2, 6,
            6, 1, 5, 7, 1, 1, 1, 5, 1, 5, 6, 6, 5, 6, 5,
            4, 5, 10, 1, 7, 5, 8, 1, 1, 3, 3, 1, 1, 1,
            1, 1, 1, 6, 6, 12, 42, 26, 25,
            2, 12, 6, 7, 11, 1, 5, 44, 7, 3, 44};
        for (int i = 0; i < texts.length; i++) {
            worth(six(), texts[i], wants[i]);
        }
        for (int a = 0; a < 4; a++) {
            for (int b = 0; b < 4; b++) {
                RoadsThanked x = six();
                worth(x, "5+(" + a + ">" + b + ")", a > b ? 6 : 5);
                worth(x, "5+(" + a + "<" + b + ")", a < b ? 6 : 5);
                worth(x, "5+(" + a + "=" + b + ")", a == b ? 6 : 5);
                worth(x, "5+(" + a + "&" + b + ")", a > 0 && b > 0 ? 6 : 5);
                worth(x, "5+(" + a + "|" + b + ")", a > 0 || b > 0 ? 6 : 5);
            }
        }
        promise8WorthWraps();
        promise8WorthNames();
    }

    /** 9999 * 9999 * 9999 wraps; so does the least int by -1. */
    private static void promise8WorthWraps() {
        RoadsThanked x = six();
        worth(x, "5+(9999*9999*9999>0)", 9999 * 9999 * 9999 > 0 ? 6 : 5);
        worth(x, "50+9999*9999*9999%40", 50 + 9999 * 9999 * 9999 % 40);
        worth(x, "5+(1024*1024*1024*2<0)", 6);
        worth(x, "5+(1024*1024*1024*2/-1<0)", 6);
        worth(x, "5+(1024*1024*1024*2%-1)", 5);
        worth(x, "5+(-(1024*1024*1024*2)<0)", 6);
    }

    /** k: others that are not ploughed up, once each; j of none is 0. */
    private static void promise8WorthNames() {
        RoadsThanked x = six();
        worth(x, "10*k", 40);
        x.mend(5, 3, 1);
        due.is("one less", x.hours(1), 30);
        x.mend(1, 3, 1);
        due.is("itself is not counted", x.hours(1), 30);
        due.is("of a road by itself", x.hours(4), 1);
        worth(x, "j+40", 45);
        due.is("j of none", x.hours(0), 40);
        worth(x, "n", 2);
        for (int i = 3; i <= 120; i++) {
            x.night();
        }
        due.is("n, at most 99", x.hours(1), 99);
        worth(x, "n-50", 49);
    }
}
