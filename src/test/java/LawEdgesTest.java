/** Sentence by sentence, the edges of promises 7 to 9 and of the law's text: the tape, its grammar, its faults, what it is worth. */
final class LawEdgesTest {
    private static final int BAD = Due.BAD, NOT = Due.NOT, FULL = Due.FULL;
    private static final int LEAST = Due.LEAST, MOST = Due.MOST;
    /** The least int, and the greatest, as the law can tell them. */
    private static final String LOW = "1024*1024*1024*2", HIGH = "(" + LOW + "-1)";
    private static final Due due = new Due("LawEdgesTest");

    public static void main(String[] args) {
        aByte();
        tapeFull();
        tapeOf120();
        tapeEmptyThen();
        tapeEmptyThenWithAFault();
        tapeBecomesTheLaw();
        linesOneOrMore();
        lineOfOneOrTwo();
        orAndAnd();
        comparedOnce();
        loosestFirst();
        fromLeftToRight();
        digits();
        noBlanks();
        names();
        openAtOnce();
        wrapping();
        towards0();
        by0();
        oneOrNought();
        whatCountsIfNot0();
        firstLine();
        noLine();
        faultOfTheFirstByte();
        faultOfTheEnd();
        heldWithin();
        withoutAText();
        nameLength();
        nameMood();
        nameJealous();
        moodAndJealous();
        fromMoodToMood();
        nameNights();
        nameRoad();
        nameNeighbours();
        neighboursByEnds();
        hoursOfARoad();
        hoursOfAll();
        lawInEachCall();
        due.end();
    }

    private static void reads(String text) {
        due.is("law \"" + text + "\"", Due.law(new RoadsThanked(), text), 1);
    }

    private static void faults(String text, int place) {
        due.is("law \"" + text + "\"", Due.law(new RoadsThanked(), text), -100 - place);
    }

    /** Road 1 of six: l 20, m -2, j 5, n 2, r 1, k 4. */
    private static RoadsThanked six() {
        RoadsThanked x = Due.net(1, 10, 12, 20, 23, 30, 2, 40, 45, 50, 12, 60);
        x.mend(1, 1, -4);
        x.mend(1, 2, 2);
        x.mend(2, 1, 7);
        x.night();
        x.night();
        return x;
    }

    private static void worth(String text, int want) {
        RoadsThanked x = six();
        due.is("law \"" + text + "\"", Due.law(x, text), 1);
        due.is("hours(1) by \"" + text + "\"", x.hours(1), want);
    }

    /** What it is worth is told above 50, as hours are held within 1 .. 99. */
    private static void worthTo50(String text, int want) {
        worth("50+(" + text + ")", 50 + want);
    }

    private static void aByte() {
        due.sentence("A byte (0 .. 255)");
        RoadsThanked x = new RoadsThanked();
        due.each("feed(#)", v -> x.feed(v), BAD, LEAST, -256, -1, 256, 257, MOST);
        due.is("count(2)", x.count(2), 0);
        due.is("feed(0)", x.feed(0), 1);
        due.is("feed(255)", x.feed(255), 2);
        due.is("feed(128)", x.feed(128), 3);
        due.is("count(2)", x.count(2), 3);
        due.is("a byte is not cut", Due.law(Due.net(1, 9), "l" + (char) (256 - 5)), -101);
    }

    private static void tapeFull() {
        due.sentence("FULL (120)");
        RoadsThanked x = Due.net(1, 10);
        for (int i = 1; i <= 119; i++) {
            due.is("feed", x.feed(i % 2 == 0 ? '+' : '1'), i);
        }
        due.is("the 120th", x.feed('+'), 120);
        due.is("the 121st", x.feed('1'), FULL);
        due.is("once more", x.feed('1'), FULL);
        due.is("count(2)", x.count(2), 120);
        due.is("the tape's end is as it was", x.law(), -220);
        due.is("empty again", x.feed('l'), 1);
    }

    private static void tapeOf120() {
        due.sentence("a TEXT by THE TAPE (at most 120 bytes)");
        RoadsThanked x = Due.net(1, 10);
        due.is("120 bytes", Due.law(x, "1" + "+1".repeat(58) + "+11".substring(0, 2) + "1"), 1);
        due.is("58 ones, one, and 11", x.hours(0), 59 + 11);
        due.is("119 bytes", Due.law(x, "1" + "+1".repeat(59)), 1);
        due.is("60 ones", x.hours(0), 60);
        RoadsThanked y = Due.net(1, 10);
        due.is("sixty lines", Due.law(y, "0" + "?5;0".repeat(29) + ";7"), 1);
        due.is("the last of them counts", y.hours(0), 1);
        RoadsThanked z = Due.net(1, 10);
        due.is("many lines", Due.law(z, "0?5;".repeat(29) + "1?62"), 1);
        due.is("the last of them counts", z.hours(0), 62);
        RoadsThanked w = Due.net(1, 10);
        due.is("signs", Due.law(w, "!!!!!0+".repeat(17) + "l"), 1);
        due.is("signs", w.hours(0), 27);
    }

    private static void tapeEmptyThen() {
        due.sentence("THE TAPE is empty then");
        RoadsThanked x = Due.net(1, 10);
        Due.tape(x, "l+1");
        due.is("law", x.law(), 1);
        due.is("count(2)", x.count(2), 0);
        due.is("feed", x.feed('l'), 1);
        due.is("a new text by itself", x.law(), 1);
        due.is("hours", x.hours(0), 10);
    }

    private static void tapeEmptyThenWithAFault() {
        due.sentence("-100 less its FAULT; THE TAPE is empty then");
        RoadsThanked x = Due.net(1, 10);
        Due.tape(x, "l+)l");
        due.is("law", x.law(), -102);
        due.is("count(2)", x.count(2), 0);
        due.is("feed", x.feed('5'), 1);
        due.is("a new text by itself", x.law(), 1);
        due.is("hours", x.hours(0), 5);
        due.is("an empty tape's fault is 0", x.law(), -100);
    }

    private static void tapeBecomesTheLaw() {
        due.sentence("THE TAPE becomes THE LAW: 1");
        RoadsThanked x = Due.net(1, 10);
        Due.tape(x, "7");
        due.is("not ahead of law()", x.hours(0), 10);
        due.is("law", x.law(), 1);
        due.is("behind law()", x.hours(0), 7);
        Due.tape(x, "8");
        due.is("not ahead of law()", x.hours(0), 7);
        due.is("law", x.law(), 1);
        due.is("the later one", x.hours(0), 8);
        due.is("one with a fault", Due.law(x, "9+"), -102);
        due.is("does not become it", x.hours(0), 8);
        due.is("nor does an empty one", x.law(), -100);
        due.is("hours", x.hours(0), 8);
        due.is("a shorter one", Due.law(x, "3?4;5"), 1);
        due.is("a shorter one", x.hours(0), 4);
    }

    private static void linesOneOrMore() {
        due.sentence("LINES, one or more, parted by ;");
        faults("", 0);
        faults(";", 0);
        faults(";1", 0);
        faults("1;", 2);
        faults("1;;1", 2);
        faults("1?2;", 4);
        reads("1");
        reads("1;2");
        reads("1?2;3?4;5?6");
        faults("1,2", 1);
        faults("(1;2)", 2);
    }

    private static void lineOfOneOrTwo() {
        due.sentence("LINE: E, or E ? E");
        reads("1?2");
        faults("?", 0);
        faults("?2", 0);
        faults("1?", 2);
        faults("1?;2", 2);
        faults("1?2?", 3);
        faults("1?2?3", 3);
        faults("(1?2)", 2);
        faults("1?(2?3)", 4);
        reads("1?2;1?2");
        for (String e : new String[] {"2|3", "2&3", "2<3", "2=3", "2>3", "2+3", "2-3", "2*3", "2/3", "2%3", "!2", "-2", "(2)"}) {
            reads(e);
            reads(e + "?" + e);
            reads(e + "?" + e + ";" + e);
            reads("(" + e + ")?" + e + ";" + e + "?" + e);
        }
        worth("0|1?0|0|1;7", 1);
        worth("0|0?7;5+(0|1)", 6);
    }

    private static void orAndAnd() {
        due.sentence("E = A { | A }. A = B { & B }");
        reads("1|2|3");
        reads("1&2&3");
        reads("1|2&3|4");
        faults("|1", 0);
        faults("&1", 0);
        faults("1|", 2);
        faults("1||2", 2);
        faults("1&&2", 2);
        faults("1|&2", 2);
        worthTo50("0|0|1", 1);
        worthTo50("1&1&0", 0);
        worthTo50("1|0&0", 1);
        worthTo50("(1|0)&0", 0);
        worthTo50("0&0|1", 1);
        worthTo50("0&(0|1)", 0);
    }

    private static void comparedOnce() {
        due.sentence("B = S, or S < S, S = S, S > S");
        for (String sign : new String[] {"<", "=", ">"}) {
            reads("1" + sign + "2");
            faults(sign + "2", 0);
            faults("1" + sign, 2);
            for (String other : new String[] {"<", "=", ">"}) {
                faults("1" + sign + "2" + other + "3", 3);
                faults("1" + sign + other + "2", 2);
                faults("(1" + sign + "2" + other + "3)", 4);
                reads("(1" + sign + "2)" + other + "3");
                reads("1" + sign + "2&3" + other + "4");
                reads("1" + sign + "2|3" + other + "4");
                reads("1" + sign + "2?3" + other + "4");
                reads("1" + sign + "2;3" + other + "4");
            }
        }
    }

    private static void loosestFirst() {
        due.sentence("S = P { + P, - P }. P = O { * O, / O, % O }");
        worth("2+3*4", 14);
        worth("2*3+4", 10);
        worth("(2+3)*4", 20);
        worth("30-12/4", 27);
        worth("30-12%5", 28);
        worthTo50("2<1+4", 1);
        worthTo50("1+4<2", 0);
        worthTo50("2*3=6", 1);
        worthTo50("1=1&2", 1);
        worthTo50("2&1=1", 1);
        worthTo50("0|2>1", 1);
        worth("!1+5", 5);
        worth("-2*3+50", 44);
        worth("-2+3*5", 13);
        worth("!0*7", 7);
        worth("10--3", 13);
        worth("10+-3", 7);
        worth("10*-3+40", 10);
        faults("+1", 0);
        faults("*1", 0);
        faults("/1", 0);
        faults("%1", 0);
        faults("1+*2", 2);
        faults("1*+2", 2);
        faults("1+", 2);
        faults("1%", 2);
    }

    private static void fromLeftToRight() {
        due.sentence("{ + P, - P }, { * O, / O, % O }: one behind the other");
        worth("20-5-3", 12);
        worth("20-5+3", 18);
        worth("40/5/2", 4);
        worth("40/5*2", 16);
        worth("7*9/2", 31);
        worth("7/2*9", 27);
        worth("40%7%3", 2);
        worth("40%(7%4)", 1);
        worth("5*7%4", 3);
        worth("5*(7%4)", 15);
    }

    private static void digits() {
        due.sentence("a number (1 to 4 digits)");
        reads("0");
        reads("9");
        reads("10");
        reads("100");
        reads("1000");
        reads("9999");
        reads("0000");
        faults("12345", 4);
        faults("00000", 4);
        faults("1+12345", 6);
        faults("(12345)", 5);
        faults("1?12345", 6);
        faults("123456", 4);
        worth("0012", 12);
        worth("0007", 7);
        worth("99", 99);
        worthTo50("9999=100*99+99", 1);
        worthTo50("1000=10*10*10", 1);
        for (int digit = 0; digit <= 9; digit++) {
            worth("5" + digit, 50 + digit);
        }
    }

    private static void noBlanks() {
        due.sentence("No blanks");
        faults(" 1", 0);
        faults("1 ", 1);
        faults("1 +2", 1);
        faults("1+ 2", 2);
        faults("1 2", 1);
        faults("( 1)", 1);
        faults("(1 )", 2);
        faults("1; 2", 2);
        faults("1 ?2", 1);
        faults("1\n", 1);
        faults("\t1", 0);
        faults("1" + (char) 0, 1);
    }

    private static void names() {
        due.sentence("NAMES: l, m, j, n, r, k");
        for (int letter = 0; letter < 256; letter++) {
            RoadsThanked x = new RoadsThanked();
            x.feed('1');
            x.feed('+');
            x.feed(letter);
            boolean ends = letter >= '0' && letter <= '9' || letter > 0 && "lmjnrk".indexOf(letter) >= 0;
            boolean opens = letter == '(' || letter == '!' || letter == '-';
            due.is("law 1+ and byte " + letter, x.law(), ends ? 1 : opens ? -103 : -102);
        }
        faults("lm", 1);
        faults("l1", 1);
        faults("1l", 1);
        faults("l(1)", 1);
        faults("(1)l", 3);
    }

    private static void openAtOnce() {
        due.sentence("At most 6 of ( ! - ahead of an O are open at once");
        for (String sign : new String[] {"!", "-"}) {
            reads(sign.repeat(6) + "1");
            faults(sign.repeat(7) + "1", 6);
            faults(sign.repeat(6) + "(1)", 6);
            reads(sign.repeat(5) + "(1)");
            faults(sign.repeat(5) + "(" + sign + "1)", 6);
            reads(sign.repeat(6) + "1+" + sign.repeat(6) + "1");
            reads(sign.repeat(6) + "1*" + sign.repeat(6) + "1");
            reads(sign.repeat(6) + "1?" + sign.repeat(6) + "1;" + sign.repeat(6) + "1");
            faults("1?" + sign.repeat(7) + "1", 8);
            faults("1;" + sign.repeat(7) + "1", 8);
        }
        reads("((((((1))))))");
        faults("(((((((1)))))))", 6);
        reads("((((((1))))))+((((((1))))))");
        reads("(((((1)+(2)))))");
        reads("(((((1+(2)+(3)*(4))))))");
        faults("(((((1+(2+(3)))))))", 10);
        faults("(((((1+(-3)))))", 8);
        reads("((((-(1)))))");
        faults("((((-(-1)))))", 6);
        reads("(!-(!-1))");
        faults("(!-(!--1))", 6);
        reads("1-1-1-1-1-1-1-1-1");
        reads("(((((-1-1-1-1)))))");
        faults("((((((1+-1))))))", 8);
        faults("((((((", 6);
        faults("(((((((", 6);
        faults("((((((x", 6);
        worth("------7", 7);
        worth("((((((7))))))", 7);
    }

    private static void wrapping() {
        due.sentence("Ints that wrap");
        worthTo50(HIGH + "+1=" + LOW, 1);
        worthTo50(LOW + "-1>0", 1);
        worthTo50(LOW + "<0", 1);
        worthTo50("-(" + LOW + ")=" + LOW, 1);
        worthTo50(HIGH + "*2=-2", 1);
        worthTo50(LOW + "*2", 0);
        worthTo50("9999*9999*9999=" + wrapped(), 1);
        worthTo50(HIGH + "-" + LOW, -1);
        worthTo50("9999*9999*9999%40", 9999 * 9999 * 9999 % 40);
        worthTo50(HIGH + ">" + LOW, 1);
        worthTo50(LOW + "<" + HIGH, 1);
    }

    /** 9999 * 9999 * 9999, as it wraps, in numbers of four digits. */
    private static String wrapped() {
        int v = 9999 * 9999 * 9999;
        return v / 9999 / 9999 + "*9999*9999+" + v / 9999 % 9999 + "*9999+" + v % 9999;
    }

    private static void towards0() {
        due.sentence("/ and % toward 0");
        int[] tops = {-7, -6, -5, -1, 0, 1, 5, 6, 7};
        int[] bottoms = {-9, -4, -3, -2, -1, 1, 2, 3, 4, 9};
        for (int a : tops) {
            for (int b : bottoms) {
                int quotient = Math.abs(a) / Math.abs(b) * Integer.signum(a) * Integer.signum(b);
                worthTo50(a + "/" + b, quotient);
                worthTo50(a + "%" + b, a - quotient * b);
            }
        }
        worthTo50(LOW + "/-1=" + LOW, 1);
        worthTo50(LOW + "%-1", 0);
    }

    private static void by0() {
        due.sentence("by 0 they give 0");
        for (int a : new int[] {-9, -1, 0, 1, 7, 9999}) {
            worthTo50(a + "/0", 0);
            worthTo50(a + "%0", 0);
            worthTo50(a + "/(3-3)", 0);
            worthTo50(a + "%(3-3)", 0);
        }
        worth("5+7/0", 5);
        worth("5+7%0", 5);
        worth("7%0+5", 5);
        worthTo50(LOW + "/0", 0);
    }

    private static void oneOrNought() {
        due.sentence("| & < = > ! give 1, 0");
        for (int a = -2; a <= 2; a++) {
            worthTo50("!" + a, a == 0 ? 1 : 0);
            for (int b = -2; b <= 2; b++) {
                worthTo50(a + "|" + b, a != 0 || b != 0 ? 1 : 0);
                worthTo50(a + "&" + b, a != 0 && b != 0 ? 1 : 0);
                worthTo50(a + "<" + b, a < b ? 1 : 0);
                worthTo50(a + "=" + b, a == b ? 1 : 0);
                worthTo50(a + ">" + b, a > b ? 1 : 0);
            }
        }
        worthTo50("!!7", 1);
        worthTo50("2|4", 1);
        worthTo50("2&4", 1);
        worthTo50("4&1", 1);
    }

    private static void whatCountsIfNot0() {
        due.sentence("(what counts if the first is not 0)");
        worth("1?7;9", 7);
        worth("0?7;9", 9);
        worth("-1?7;9", 7);
        worth("2?7;9", 7);
        worth(LOW + "?7;9", 7);
        worth("3-3?7;9", 9);
        worth("m?7;9", 7);
        worth("1?0;9", 1);
    }

    private static void firstLine() {
        due.sentence("The first LINE without a first E, or whose first E is not 0, counts");
        worth("7;8", 7);
        worth("0?6;7;8", 7);
        worth("0?6;1?7;1?8", 7);
        worth("0?6;1?7;8", 7);
        worth("0?6;0?7;8", 8);
        worth("0?6;0?7;1?8", 8);
        worth("0;8", 1);
        worth("7;1?8", 7);
        worth("1?6;7", 6);
    }

    private static void noLine() {
        due.sentence("none: 0");
        worth("0?50", 1);
        worth("0?50;0?60", 1);
        worth("l-l?50", 1);
        RoadsThanked x = Due.net(1, 10);
        due.is("a long text", Due.law(x, "0?3;20;30;40;50"), 1);
        due.is("hours(0)", x.hours(0), 20);
        due.is("a text of one line", Due.law(x, "0?5"), 1);
        due.is("none of the other text's lines", x.hours(0), 1);
    }

    private static void faultOfTheFirstByte() {
        due.sentence("FAULT: the place (from 0) of the first byte with which no TEXT goes on");
        faults("x", 0);
        faults(")", 0);
        faults("1)", 1);
        faults("()", 1);
        faults("(1))", 3);
        faults("1+2+x", 4);
        faults("x+", 0);
        faults("1;2;)", 4);
        faults("l+(m*(n-)", 8);
        faults("5!", 1);
        faults("1(2)", 1);
        faults("-)", 1);
        faults("!?", 1);
        RoadsThanked last = new RoadsThanked();
        due.is("at the 120th byte", Due.law(last, "1" + "+1".repeat(59) + "x"), -219);
    }

    private static void faultOfTheEnd() {
        due.sentence("the length, if it ends too early");
        faults("", 0);
        faults("(", 1);
        faults("(1", 2);
        faults("((1)", 4);
        faults("!", 1);
        faults("-", 1);
        faults("1+", 2);
        faults("1;", 2);
        faults("1?", 2);
        faults("1?2;3?", 6);
        faults("((((((", 6);
        RoadsThanked last = new RoadsThanked();
        due.is("of 120 bytes", Due.law(last, "1" + "+1".repeat(59) + "-"), -220);
    }

    private static void heldWithin() {
        due.sentence("how many HOURS a ROAD takes (held within 1 .. 99)");
        worth("0", 1);
        worth("1", 1);
        worth("2", 2);
        worth("98", 98);
        worth("99", 99);
        worth("100", 99);
        worth("9999", 99);
        worth("-1", 1);
        worth(LOW, 1);
        worth(HIGH, 99);
        RoadsThanked x = Due.net(1, 99, 12, 1);
        x.mend(0, 1, -1);
        x.mend(1, 1, 1);
        due.is("without a text, 100", x.hours(0), 99);
        due.is("without a text, 0", x.hours(1), 1);
        x.mend(0, 1, 0);
        x.mend(1, 1, 0);
        due.is("without a text, 99", x.hours(0), 99);
        due.is("without a text, 1", x.hours(1), 1);
    }

    private static void withoutAText() {
        due.sentence("Without a text: l, less m");
        RoadsThanked x = Due.net(1, 20);
        for (int m = -9; m <= 9; m++) {
            x.mend(0, 1, m);
            due.is("hours(0), mood " + m, x.hours(0), 20 - m);
        }
        due.is("a text with a fault is none", Due.law(x, "5;"), -102);
        due.is("hours(0)", x.hours(0), 11);
    }

    private static void nameLength() {
        due.sentence("l LENGTH");
        RoadsThanked x = Due.net(1, 1, 12, 99);
        Due.law(x, "l");
        due.is("hours(0)", x.hours(0), 1);
        due.is("hours(1)", x.hours(1), 99);
        x.mend(0, 0, 45);
        due.is("hours(0)", x.hours(0), 45);
    }

    private static void nameMood() {
        due.sentence("m MOOD");
        RoadsThanked x = Due.net(1, 1, 12, 99);
        Due.law(x, "m+20");
        for (int m = -9; m <= 9; m++) {
            x.mend(1, 1, m);
            due.is("hours(1), mood " + m, x.hours(1), 20 + m);
            due.is("hours(0)", x.hours(0), 20);
        }
    }

    private static void nameJealous() {
        due.sentence("j MOOD of the ROAD it is JEALOUS of (0: of none)");
        RoadsThanked x = Due.net(1, 1, 12, 99, 23, 5);
        x.mend(0, 1, 4);
        x.mend(1, 1, -6);
        x.mend(2, 1, 9);
        Due.law(x, "j+20");
        due.is("of none", x.hours(0), 20);
        x.mend(0, 2, 1);
        x.mend(1, 2, 2);
        x.mend(2, 2, 0);
        due.is("of 1", x.hours(0), 14);
        due.is("of 2", x.hours(1), 29);
        due.is("of 0", x.hours(2), 24);
        x.mend(1, 3, 1);
        due.is("ploughed up or not", x.hours(0), 14);
        x.mend(0, 2, -1);
        due.is("of none again", x.hours(0), 20);
    }

    private static void moodAndJealous() {
        due.sentence("m MOOD, j MOOD of the ROAD it is JEALOUS of: all moods, of the first and the last ROAD");
        for (int road = 0; road < 12; road += 11) {
            for (int m = -9; m <= 9; m++) {
                RoadsThanked x = Due.fullNet();
                Due.law(x, "50+2*m+j");
                x.mend(road, 1, m);
                x.mend(road, 2, 5);
                for (int j = -9; j <= 9; j++) {
                    x.mend(5, 1, j);
                    due.is("hours(" + road + "), m " + m + ", j " + j, x.hours(road), 50 + 2 * m + j);
                    due.is("hours(-1), m " + m + ", j " + j, x.hours(-1), 12 * 50 + 2 * m + j + 2 * j);
                }
            }
        }
    }

    private static void fromMoodToMood() {
        due.sentence("by HOURS as they are now: from each MOOD to each other one");
        for (int first = -9; first <= 9; first++) {
            RoadsThanked x = Due.fullNet();
            x.mend(11, 2, 10);
            Due.law(x, "50+2*m+j");
            for (int second = -9; second <= 9; second++) {
                x.mend(11, 1, first);
                x.mend(10, 1, -second);
                due.is("hours(11), " + first + " and " + -second, x.hours(11), 50 + 2 * first - second);
                x.mend(11, 1, second);
                due.is("hours(11), " + second + " and " + -second, x.hours(11), 50 + second);
                x.mend(10, 1, first);
                due.is("hours(11), " + second + " and " + first, x.hours(11), 50 + 2 * second + first);
            }
        }
    }

    private static void nameNights() {
        due.sentence("n how many nights were (at most 99)");
        RoadsThanked x = Due.net(1, 1);
        Due.law(x, "n-60");
        RoadsThanked y = Due.net(1, 1);
        Due.law(y, "n");
        for (int night = 0; night <= 105; night++) {
            int n = Math.min(99, night);
            if (night < 10 || night > 95) {
                due.is("n-60 after " + night, x.hours(0), Math.max(1, n - 60));
                due.is("n after " + night, y.hours(0), Math.max(1, n));
            }
            x.night();
            y.night();
        }
        due.is("led(4) goes on", x.led(4), 106);
    }

    private static void nameRoad() {
        due.sentence("r the ROAD");
        RoadsThanked x = Due.fullNet();
        Due.law(x, "r+5");
        for (int r = 0; r < 12; r++) {
            due.is("hours(" + r + ")", x.hours(r), r + 5);
        }
    }

    private static void nameNeighbours() {
        due.sentence("k how many other ROADS that are not PLOUGHED up end in FROM or TO");
        RoadsThanked x = Due.fullNet();
        Due.law(x, "k+1");
        due.is("eleven others", x.hours(0), 12);
        x.mend(0, 3, 1);
        due.is("itself does not count", x.hours(0), 12);
        due.is("nor does it for the others", x.hours(1), 11);
        x.mend(11, 3, 1);
        due.is("ploughed up, another", x.hours(0), 11);
        due.is("ploughed up, another", x.hours(1), 10);
        x.mend(0, 3, 0);
        due.is("not ploughed up any more", x.hours(1), 11);
        RoadsThanked alone = Due.net(1, 9);
        Due.law(alone, "k+1");
        due.is("none", alone.hours(0), 1);
    }

    private static void neighboursByEnds() {
        due.sentence("end in FROM or TO: by either end, each once");
        for (int other : new int[] {2, 20, 12, 21, 1, 10}) {
            RoadsThanked x = Due.net(1, 9, other, 9, 34, 9);
            Due.law(x, "k+10");
            due.is("hours(0) beside " + other, x.hours(0), 11);
            due.is("hours(1), which is " + other, x.hours(1), 11);
            due.is("hours(2), apart", x.hours(2), 10);
        }
    }

    private static void hoursOfARoad() {
        due.sentence("HOURS of a ROAD (road -1: of all together). BAD");
        RoadsThanked x = Due.net(1, 10, 12, 20);
        due.each("hours(#)", r -> x.hours(r), BAD, LEAST, -3, -2, 2, 11, 12, MOST);
        due.is("hours(0)", x.hours(0), 10);
        due.is("hours(1)", x.hours(1), 20);
        RoadsThanked full = Due.fullNet();
        due.is("hours(11)", full.hours(11), 21);
        due.each("hours(#)", r -> full.hours(r), BAD, -2, 12);
    }

    private static void hoursOfAll() {
        due.sentence("of all ROADS together");
        due.is("no roads", new RoadsThanked().hours(-1), 0);
        RoadsThanked x = Due.net(1, 10, 12, 20, 23, 40);
        due.is("hours(-1)", x.hours(-1), 70);
        x.mend(2, 3, 1);
        due.is("ploughed up or not", x.hours(-1), 70);
        x.mend(1, 1, 5);
        due.is("by moods", x.hours(-1), 65);
        due.is("law", Due.law(x, "l+100*r"), 1);
        due.is("each is held by itself", x.hours(-1), 10 + 99 + 99);
        RoadsThanked most = new RoadsThanked();
        for (int i = 0; i < 12; i++) {
            most.road(1, 99);
        }
        due.is("the most", most.hours(-1), 12 * 99);
    }

    /** A triangle of roads 0, 1, 2 and road 3, which is ploughed up, from 2 to 3. */
    private static RoadsThanked triangle() {
        RoadsThanked x = Due.net(1, 1, 12, 2, 2, 3, 23, 4);
        x.traveller(0);
        x.mend(3, 3, 1);
        x.mend(0, 2, 1);
        x.mend(1, 1, 3);
        x.night();
        Due.law(x, "20*k+10*n+r+2*j");
        return x;
    }

    private static void lawInEachCall() {
        due.sentence("THE LAW gives how many HOURS a ROAD takes: in each call");
        RoadsThanked x = triangle();
        int[] hours = {54, 51, 52, 53};
        for (int r = 0; r < 4; r++) {
            due.is("hours(" + r + ")", x.hours(r), hours[r]);
        }
        due.is("hours(-1)", x.hours(-1), 210);
        due.is("way(1, -1)", x.way(1, -1), 54);
        due.is("reach(0, 0, 2)", x.reach(0, 0, 2), 54);
        due.is("reach(0, 53, 0)", x.reach(0, 53, 0), 5);
        due.is("longer(1, 0)", x.longer(1, 0), 31 + 32 - 54);
        Due.row(x, 0, 0, 0, 3, 6);
        due.is("trip(0, 0, 0)", x.trip(0, 0, 0), 157);
        due.is("round(0, 6, -1)", x.round(0, 6, -1), 157);
        due.is("least(1, 54, -1)", x.least(1, 54, -1), 0);
        due.is("least(1, 53, -1)", x.least(1, 53, -1), NOT);
        due.is("best(0)", x.best(0), 0);
        due.is("best(1)", x.best(1), 210);
        Due.row(x, 1, 1, 54, 51, 52, 53);
        due.is("judge(1)", x.judge(1), NOT);
        due.is("sunday(1, 1)", x.sunday(1, 1), -1);
        due.is("sunday(1, 0), all but those to 1", x.sunday(1, 0), 7);
        due.is("sunday(1, 2), all but those with one to 1", x.sunday(1, 2), 36);
        due.is("byTurns(1, 1, 0)", x.byTurns(1, 1, 0), 50);
        due.is("byTurns(1, 1, 1)", x.byTurns(1, 1, 1), 5);
        due.is("byTurns(1, 2, 0)", x.byTurns(1, 2, 0), 52);
        due.is("goes(0, 0, 0)", x.goes(0, 0, 0), 54);
        x.night();
        due.is("goes(0, 0, 0), after another night", x.goes(0, 0, 0), 62);
        due.is("led(1)", x.led(1), 116);
        x.mend(3, 3, 0);
        due.is("hours(1), beside three", x.hours(1), 81);
        due.is("goes(0, 2, 0), beside three", x.goes(0, 2, 0), 82);
        int z = 1;
        int drawn = 0;
        for (int year = 0; year < 30; year++) {
            z = z * 1103515245 + 12345;
            drawn += 60 + 81 + 82 + 63 + ((z >>> 8) % 4 == 1 ? 4 : 2);
        }
        due.is("drawn(1, 300112, -1): j is 2 in years of thanks to 1, else 1", x.drawn(1, 300112, -1), drawn);
    }
}
