/** Sentence by sentence, the edges of promises 32 to 34: bodies, acts, the trace. */
final class ActEdgesTest {
    private static final int BAD = Due.BAD, FULL = Due.FULL;
    private static final int LEAST = Due.LEAST, MOST = Due.MOST;
    private static final Due due = new Due("ActEdgesTest");

    public static void main(String[] args) {
        bodyBad();
        bodiesAsTheyCome();
        bodiesFull();
        bodyOfEachKind();
        actNoSuchStone();
        actNoSuchAct();
        actRefusedNoTrace();
        actNumberOfTheStone();
        actWraps();
        actsOfAllKinds();
        tracesOfAllKinds();
        traceBad();
        traceOfTheLatest();
        traceKept();
        traceNoneYet();
        due.end();
    }

    private static RoadsThanked allKinds() {
        RoadsThanked x = new RoadsThanked();
        for (int kind = 0; kind < 8; kind++) {
            x.body(kind);
        }
        return x;
    }

    private static void bodyBad() {
        due.sentence("A STONE of a KIND (0 .. 7). BAD");
        RoadsThanked x = new RoadsThanked();
        due.each("body(#)", k -> x.body(k), BAD, LEAST, -2, -1, 8, 9, MOST);
        due.is("count(4)", x.count(4), 0);
        due.is("body(0)", x.body(0), 0);
        due.is("body(7)", x.body(7), 1);
    }

    private static void bodiesAsTheyCome() {
        due.sentence("BODIES 0 .. 49: its number");
        RoadsThanked x = new RoadsThanked();
        for (int i = 0; i < 50; i++) {
            due.is("keep(0, " + i + "), ahead", x.keep(0, i), BAD);
            due.is("body", x.body(i % 8), i);
            due.is("count(4)", x.count(4), i + 1);
            due.is("keep(0, " + i + ")", x.keep(0, i), 1);
        }
        due.is("act(49, 0, 0)", x.act(49, 0, 0), 52);
        due.is("keep(0, 50)", x.keep(0, 50), BAD);
    }

    private static void bodiesFull() {
        due.sentence("body(): FULL");
        RoadsThanked x = new RoadsThanked();
        for (int i = 0; i < 50; i++) {
            x.body(0);
        }
        due.is("body(1)", x.body(1), FULL);
        due.is("count(4)", x.count(4), 50);
        due.is("no fifty-first", x.keep(0, 50), BAD);
        due.is("BAD goes ahead of FULL", x.body(8), BAD);
        due.is("BAD goes ahead of FULL", x.body(-1), BAD);
        RoadsThanked y = new RoadsThanked();
        for (int i = 0; i < 49; i++) {
            y.body(0);
        }
        due.is("the fiftieth", y.body(0), 49);
    }

    private static void bodyOfEachKind() {
        due.sentence("of KINDS: 0 STONE .. 7 ECHO");
        RoadsThanked x = allKinds();
        for (int kind = 0; kind < 8; kind++) {
            x.keep(0, kind);
            due.is("taken(0, 0)", x.taken(0, 0), kind);
            due.is("taken(0, " + kind + ")", x.taken(0, kind), kind);
        }
    }

    private static void actNoSuchStone() {
        due.sentence("act(): 0: no such STONE");
        RoadsThanked x = new RoadsThanked();
        due.each("act(#, 0, 5), no stones", b -> x.act(b, 0, 5), 0, LEAST, -1, 0, 1, 50, MOST);
        x.body(0);
        due.each("act(#, 0, 5)", b -> x.act(b, 0, 5), 0, LEAST, -1, 1, 49, 50, MOST);
        due.is("act(0, 0, 5)", x.act(0, 0, 5), 5);
    }

    private static void actNoSuchAct() {
        due.sentence("act(): 0: no such ACT (0 .. 3)");
        RoadsThanked x = allKinds();
        for (int kind = 0; kind < 8; kind++) {
            int k = kind;
            due.each("act(" + k + ", #, 5)", a -> x.act(k, a, 5), 0, LEAST, -2, -1, 4, 5, MOST);
        }
        due.is("act(0, 3, 5)", x.act(0, 3, 5), 9);
        due.is("act(0, 0, 5)", x.act(0, 0, 5), 5);
    }

    private static void actRefusedNoTrace() {
        due.sentence("0, and no TRACE then");
        RoadsThanked x = allKinds();
        for (int[] wrong : new int[][] {{8, 0}, {-1, 0}, {LEAST, 0}, {MOST, 3}, {0, 4}, {0, -1}, {0, MOST}, {8, 4}}) {
            x.act(7, 3, 5);
            due.is("count(5), ahead", x.count(5), 14);
            due.is("act", x.act(wrong[0], wrong[1], 5), 0);
            due.is("count(5)", x.count(5), 0);
            due.is("trace(0)", x.trace(0), BAD);
        }
    }

    private static void actNumberOfTheStone() {
        due.sentence("n its number");
        RoadsThanked x = new RoadsThanked();
        for (int i = 0; i < 50; i++) {
            x.body(0);
        }
        for (int i = 0; i < 50; i++) {
            due.is("leads of " + i, x.act(i, 0, 100), 100 + i);
            due.is("sulks of " + i, x.act(i, 2, 21), 21 ^ i);
        }
    }

    private static void actWraps() {
        due.sentence("ACTS with x (an int that wraps)");
        RoadsThanked x = allKinds();
        int[] edges = {LEAST, LEAST + 1, LEAST / 2, -1, 0, 1, MOST / 2, MOST / 2 + 1, MOST - 1, MOST};
        for (int v : edges) {
            due.is("1 leads, " + v, x.act(0, 0, v), v);
            due.is("10 thanks, " + v, x.act(0, 1, v), v * 2);
            due.is("20 leads, " + v, x.act(1, 0, v), v + 4);
            due.is("30 thanks, " + v, x.act(2, 1, v), -((v + 2) * 2));
            due.is("41 thanks, " + v, x.act(3, 1, v), -((v + 1 + 3) * 2));
            due.is("40 sulks, " + v, x.act(3, 2, v), (v ^ 3) * 3);
            due.is("50 sulks, " + v, x.act(4, 2, v), (v ^ 4) - (2 + 4 + 3));
            due.is("60 tells, " + v, x.act(5, 3, v), (-((v + 1 + 5) * 2) - (1 ^ 5) * 3) ^ 5);
            due.is("70 leads, " + v, x.act(6, 0, v), (v + 6) * 2);
            due.is("80 thanks, " + v, x.act(7, 1, v), (v + 7 + 3) * 2 + ((2 ^ 7) - (2 + 7 + 3)));
        }
    }

    private static void actsOfAllKinds() {
        due.sentence("leads(..) and so on: the body of its own KIND, or of the next KIND above that has one; super: from the KIND above the body's on");
        for (int v = -9; v <= 9; v++) {
            RoadsThanked x = allKinds();
            for (int n = 0; n < 8; n++) {
                int leads = n == 1 || n == 4 || n == 7 ? v + n + 3 : n == 6 ? (v + n) * 2 : v + n;
                int leads2 = n == 1 || n == 4 || n == 7 ? 2 + n + 3 : 2 + n;
                int sulks = n == 3 || n == 5 ? (v ^ n) * 3 : n == 4 || n == 7 ? (v ^ n) - leads2 : v ^ n;
                int sulks1 = n == 3 || n == 5 ? (1 ^ n) * 3 : n == 4 || n == 7 ? (1 ^ n) - leads2 : 1 ^ n;
                int sulks2 = (2 ^ n) - leads2;
                int thanks = n == 2 ? -leads * 2 : n == 3 || n == 5 ? -(leads + 1) * 2 : n == 7 ? leads * 2 + sulks2 : leads * 2;
                int tells = thanks - sulks1;
                due.is("leads of kind " + n + ", " + v, x.act(n, 0, v), leads);
                due.is("thanks of kind " + n + ", " + v, x.act(n, 1, v), thanks);
                due.is("sulks of kind " + n + ", " + v, x.act(n, 2, v), sulks);
                due.is("tells of kind " + n + ", " + v, x.act(n, 3, v), n == 5 ? tells ^ 5 : n == 7 ? tells - 1 : tells);
            }
        }
    }

    private static void tracesOfAllKinds() {
        due.sentence("THE TRACE: numbers of the bodies that ran in the latest act(), as they began");
        int[][][] want = {
            {{1}, {10, 1}, {11}, {2, 10, 1, 11}},
            {{20, 1}, {10, 20, 1}, {11}, {2, 10, 20, 1, 11}},
            {{1}, {30, 10, 1}, {11}, {2, 30, 10, 1, 11}},
            {{1}, {41, 30, 10, 1}, {40, 11}, {2, 41, 30, 10, 1, 40, 11}},
            {{20, 1}, {10, 20, 1}, {50, 11, 20, 1}, {2, 10, 20, 1, 50, 11, 20, 1}},
            {{1}, {41, 30, 10, 1}, {40, 11}, {60, 2, 41, 30, 10, 1, 40, 11}},
            {{70, 1}, {10, 70, 1}, {11}, {2, 10, 70, 1, 11}},
            {{20, 1}, {80, 10, 20, 1, 50, 11, 20, 1}, {50, 11, 20, 1}, {81, 2, 80, 10, 20, 1, 50, 11, 20, 1, 50, 11, 20, 1}},
        };
        RoadsThanked x = allKinds();
        for (int kind = 0; kind < 8; kind++) {
            for (int act = 0; act < 4; act++) {
                int[] bodies = want[kind][act];
                x.act(kind, act, 5);
                due.is("how many, kind " + kind + ", act " + act, x.count(5), bodies.length);
                for (int i = 0; i < bodies.length; i++) {
                    due.is("trace(" + i + "), kind " + kind + ", act " + act, x.trace(i), bodies[i]);
                }
                due.is("trace(" + bodies.length + "), kind " + kind + ", act " + act, x.trace(bodies.length), BAD);
            }
        }
    }

    private static void traceBad() {
        due.sentence("trace(): BAD");
        RoadsThanked x = allKinds();
        x.act(0, 1, 5);
        due.each("trace(#)", i -> x.trace(i), BAD, LEAST, -2, -1, 2, 3, 23, 24, 25, MOST);
        due.is("trace(0)", x.trace(0), 10);
        due.is("trace(1)", x.trace(1), 1);
    }

    private static void traceOfTheLatest() {
        due.sentence("in the latest act()");
        RoadsThanked x = allKinds();
        x.act(7, 3, 5);
        x.act(2, 2, 5);
        due.is("count(5)", x.count(5), 1);
        due.is("trace(0)", x.trace(0), 11);
        due.is("trace(1)", x.trace(1), BAD);
        x.body(3);
        x.keep(0, 0);
        x.taken(0, 0);
        x.goes(0, 0, 0);
        due.is("other calls are none: count(5)", x.count(5), 1);
        due.is("other calls are none: trace(0)", x.trace(0), 11);
    }

    private static void traceKept() {
        due.sentence("the first 24 are kept; bodies that ran in the latest act() (all, kept or not)");
        RoadsThanked x = allKinds();
        x.act(7, 3, 5);
        due.is("the longest: count(5)", x.count(5), 14);
        due.is("its last body", x.trace(13), 1);
        due.is("behind it", x.trace(14), BAD);
        due.is("behind those that can be kept", x.trace(24), BAD);
    }

    private static void traceNoneYet() {
        due.sentence("THE TRACE: none yet");
        RoadsThanked x = allKinds();
        due.each("trace(#)", i -> x.trace(i), BAD, 0, 1, 23);
        due.is("count(5)", x.count(5), 0);
    }
}
