import java.util.ArrayList;
import java.util.List;

/**
 * "What is answered so changes nothing": two objects are made alike, one of them is asked calls that
 * are refused (or that are in thought alone), and then all that can be read of both must be alike.
 */
final class UnchangedTest {
    private static final int BAD = Due.BAD, NOT = Due.NOT, FULL = Due.FULL, STATE = Due.STATE, VOID = Due.VOID;
    private static final Due due = new Due("UnchangedTest");

    private interface Making {
        RoadsThanked make();
    }

    private interface Asking {
        void ask(RoadsThanked x);
    }

    public static void main(String[] args) {
        refusedRoads();
        refusedTravellers();
        refusedMends();
        refusedTapes();
        refusedWays();
        refusedThanks();
        refusedSundays();
        refusedDeeds();
        refusedBodies();
        refusedShelves();
        refusedShifts();
        refusedWhenFull();
        refusedWhenNew();
        thoughtsOfWays();
        thoughtsOfThanks();
        thoughtsOfSundays();
        whatIsAsked();
        sameNumbers();
        oneObjectAndAnother();
        due.end();
    }

    /** Something of all that there is: what was changed, undone, fed, kept, led. */
    private static RoadsThanked much() {
        RoadsThanked x = Due.net(1, 10, 12, 20, 23, 30, 34, 40, 2, 50);
        x.traveller(0);
        x.traveller(3);
        Due.law(x, "l-m+j+n+k");
        x.mend(1, 2, 0);
        x.mend(2, 2, 1);
        x.mend(4, 3, 1);
        x.mend(1, 5, 9);
        x.goes(0, 0, 1);
        x.goes(1, 2, 2);
        x.image();
        x.goes(0, 1, 1);
        x.goes(1, 2, 0);
        x.night();
        x.mend(3, 1, -4);
        x.mend(3, 0, 41);
        x.mend(0, 4, 6);
        x.undo();
        x.undo();
        Due.tape(x, "m+(");
        x.body(7);
        x.body(3);
        Due.row(x, 0, 0, 1, 4, 8, 0, 1, 5);
        Due.row(x, 1, 1, 11, 22, 33);
        Due.row(x, 2, 3, 7, Long.MAX_VALUE);
        x.keep(3, 1);
        Due.row(x, 5, 4, 1, 0, 1);
        x.act(0, 2, 5);
        return x;
    }

    private static RoadsThanked fullOfRoads() {
        RoadsThanked x = Due.fullNet();
        for (int i = 0; i < 4; i++) {
            x.traveller(i);
        }
        for (int i = 0; i < 41; i++) {
            x.mend(i % 12, 1, i / 12 + 1);
        }
        Due.row(x, 0, 0, 0, 1, 5);
        return x;
    }

    private static RoadsThanked fullOfBytes() {
        RoadsThanked x = Due.net(1, 10);
        for (int i = 0; i < 120; i++) {
            x.feed(i % 2 == 0 ? 'l' : '+');
        }
        return x;
    }

    private static RoadsThanked fullOfBodies() {
        RoadsThanked x = new RoadsThanked();
        for (int i = 0; i < 50; i++) {
            x.body(i % 8);
        }
        x.keep(0, 49);
        x.act(47, 1, 3);
        return x;
    }

    private static RoadsThanked made() {
        return new RoadsThanked();
    }

    private static void read(List<String> all, String call, long answer) {
        all.add(call + " = " + answer);
    }

    /** All that can be read; at the end by calls that change something. */
    private static List<String> readAll(RoadsThanked x) {
        List<String> all = new ArrayList<>();
        for (int what = 0; what < 6; what++) {
            read(all, "count(" + what + ")", x.count(what));
        }
        for (int i = 0; i <= x.count(5) && i < 24; i++) {
            read(all, "trace(" + i + ")", x.trace(i));
        }
        readNet(all, x);
        for (int shelf = 0; shelf < 6; shelf++) {
            read(all, "taken(" + shelf + ", 0)", x.taken(shelf, 0));
            for (int i = 0; i < 7; i++) {
                read(all, "element(" + shelf + ", " + i + ")", x.element(shelf, i));
            }
            read(all, "judge(" + shelf + ")", x.judge(shelf));
        }
        read(all, "act(0, 3, 5)", x.act(0, 3, 5));
        int undone = 0;
        while (x.redo() >= 0) {
            read(all, "hours(-1), done again " + undone, x.hours(-1));
            undone++;
        }
        readNet(all, x);
        for (int i = 0; i < 45 && x.undo() >= 0; i++) {
            read(all, "hours(-1), undone " + i, x.hours(-1));
        }
        readNet(all, x);
        read(all, "back()", x.back());
        readNet(all, x);
        read(all, "feed('l')", x.feed('l'));
        read(all, "law()", x.law());
        read(all, "hours(-1)", x.hours(-1));
        read(all, "road(67, 9)", x.road(67, 9));
        read(all, "traveller(7)", x.traveller(7));
        read(all, "body(0)", x.body(0));
        return all;
    }

    private static void readNet(List<String> all, RoadsThanked x) {
        for (int what = 0; what < 8; what++) {
            int many = what == 4 || what == 5 ? x.count(1) : Math.min(7, x.count(0));
            for (int number = 0; number < many; number++) {
                read(all, "of(" + number + ", " + what + ")", x.of(number, what));
            }
        }
        for (int what = 0; what < 5; what++) {
            read(all, "led(" + what + ")", x.led(what));
        }
        read(all, "hours(-1)", x.hours(-1));
        read(all, "peace(1)", x.peace(1));
    }

    private static void unchanged(Making making, Asking... askings) {
        List<String> want = readAll(making.make());
        for (Asking asking : askings) {
            RoadsThanked x = making.make();
            asking.ask(x);
            List<String> got = readAll(x);
            due.is("how much can be read", got.size(), want.size());
            for (int i = 0; i < Math.min(got.size(), want.size()); i++) {
                due.is("of an asking, then " + got.get(i) + ", else " + want.get(i), got.get(i).equals(want.get(i)) ? 1 : 0, 1);
            }
        }
    }

    private static void answer(String call, long got, long want) {
        due.is(call, got, want);
    }

    private static void refusedRoads() {
        due.sentence("What is answered so changes nothing: road(), roads()");
        unchanged(UnchangedTest::much,
            x -> answer("road(0, 5)", x.road(0, 5), BAD),
            x -> answer("road(8, 5)", x.road(8, 5), BAD),
            x -> answer("road(-1, 5)", x.road(-1, 5), BAD),
            x -> answer("road(56, 0)", x.road(56, 0), BAD),
            x -> answer("road(56, 100)", x.road(56, 100), BAD),
            x -> answer("roads(6, 0, 1)", x.roads(6, 0, 1), BAD),
            x -> answer("roads(0, 3, 0)", x.roads(0, 3, 0), BAD),
            x -> answer("roads(0, 3, 13)", x.roads(0, 3, 13), BAD),
            x -> answer("roads(1, 0, 1)", x.roads(1, 0, 1), -12),
            x -> answer("roads(3, 0, 1)", x.roads(3, 0, 1), -12),
            x -> answer("roads(4, 0, 1), where nothing is", x.roads(4, 0, 1), 0),
            x -> answer("roads(0, -3, 2)", x.roads(0, -3, 2), 0),
            x -> answer("roads(0, 4, 2)", x.roads(0, 4, 2), 0),
            x -> answer("roads(0, 2, 2), which is not so", x.roads(0, 2, 2), 0));
    }

    private static void refusedTravellers() {
        due.sentence("What is answered so changes nothing: traveller()");
        unchanged(UnchangedTest::much,
            x -> answer("traveller(-1)", x.traveller(-1), BAD),
            x -> answer("traveller(8)", x.traveller(8), BAD),
            x -> answer("traveller(MOST)", x.traveller(Due.MOST), BAD));
    }

    private static void refusedMends() {
        due.sentence("What is answered so changes nothing: mend(), of()");
        int[][] wrong = {{0, 0, 0}, {0, 0, 100}, {0, 1, -10}, {0, 1, 10}, {0, 2, -2}, {0, 2, 0}, {0, 2, 5}, {0, 3, -1}, {0, 3, 2}, {0, 4, -1}, {0, 4, 8},
            {0, 5, -1}, {0, 5, 13}, {5, 0, 1}, {-1, 0, 1}, {5, 1, 1}, {5, 2, 1}, {5, 3, 1}, {2, 4, 1}, {2, 5, 1}, {-1, 4, 1}, {0, -1, 1}, {0, 6, 1}, {0, 7, 4}, {0, 8, 1}};
        for (int[] w : wrong) {
            unchanged(UnchangedTest::much, x -> answer("mend(" + w[0] + ", " + w[1] + ", " + w[2] + ")", x.mend(w[0], w[1], w[2]), VOID));
        }
        unchanged(UnchangedTest::much,
            x -> answer("of(5, 0)", x.of(5, 0), VOID),
            x -> answer("of(0, 8)", x.of(0, 8), VOID),
            x -> answer("of(2, 4)", x.of(2, 4), VOID));
    }

    private static void refusedTapes() {
        due.sentence("What is answered so changes nothing: feed()");
        unchanged(UnchangedTest::much,
            x -> answer("feed(-1)", x.feed(-1), BAD),
            x -> answer("feed(256)", x.feed(256), BAD),
            x -> answer("feed(LEAST)", x.feed(Due.LEAST), BAD));
    }

    private static void refusedWays() {
        due.sentence("What is answered so changes nothing: hours() to round()");
        unchanged(UnchangedTest::much,
            x -> answer("hours(5)", x.hours(5), BAD),
            x -> answer("hours(-2)", x.hours(-2), BAD),
            x -> answer("way(0, -1)", x.way(0, -1), BAD),
            x -> answer("way(1, -3)", x.way(1, -3), BAD),
            x -> answer("way(5, -1)", x.way(5, -1), NOT),
            x -> answer("way(1, 9)", x.way(1, 9), NOT),
            x -> answer("reach(8, 0, 0)", x.reach(8, 0, 0), BAD),
            x -> answer("reach(0, 1000, 0)", x.reach(0, 1000, 0), BAD),
            x -> answer("reach(0, 0, 3)", x.reach(0, 0, 3), BAD),
            x -> answer("needed(11)", x.needed(11), BAD),
            x -> answer("longer(1, 5)", x.longer(1, 5), BAD),
            x -> answer("longer(1, 0)", x.longer(1, 0), NOT),
            x -> answer("trip(1, 0, 0)", x.trip(1, 0, 0), VOID),
            x -> answer("trip(0, 8, 0)", x.trip(0, 8, 0), VOID),
            x -> answer("trip(0, 0, 15)", x.trip(0, 0, 15), VOID),
            x -> answer("round(0, 256, -1)", x.round(0, 256, -1), BAD),
            x -> answer("round(0, 254, -1)", x.round(0, 254, -1), STATE),
            x -> answer("round(0, 64, -1)", x.round(0, 64, -1), NOT));
    }

    private static void refusedThanks() {
        due.sentence("What is answered so changes nothing: least() to ring()");
        unchanged(UnchangedTest::much,
            x -> answer("least(1, 1000, -1)", x.least(1, 1000, -1), BAD),
            x -> answer("least(1, 0, -2)", x.least(1, 0, -2), BAD),
            x -> answer("least(4, 0, -1)", x.least(4, 0, -1), NOT),
            x -> answer("best(2)", x.best(2), BAD),
            x -> answer("anger(5)", x.anger(5), BAD),
            x -> answer("peace(2)", x.peace(2), BAD),
            x -> answer("ring(0, 2)", x.ring(0, 2), BAD),
            x -> answer("ring(0, 0)", x.ring(0, 0), NOT));
    }

    private static void refusedSundays() {
        due.sentence("What is answered so changes nothing: judge() to drawn()");
        unchanged(UnchangedTest::much,
            x -> answer("judge(6)", x.judge(6), BAD),
            x -> answer("judge(4)", x.judge(4), -11),
            x -> answer("judge(0)", x.judge(0), -12),
            x -> answer("sunday(1, 3)", x.sunday(1, 3), BAD),
            x -> answer("sunday(4, 0)", x.sunday(4, 0), -11),
            x -> answer("sunday(3, 0)", x.sunday(3, 0), -12),
            x -> answer("byTurns(1, 3, 0)", x.byTurns(1, 3, 0), BAD),
            x -> answer("byTurns(1, 1, 2)", x.byTurns(1, 1, 2), BAD),
            x -> answer("drawn(1, 10000, 0)", x.drawn(1, 10000, 0), VOID),
            x -> answer("drawn(1, 10113, 0)", x.drawn(1, 10113, 0), VOID),
            x -> answer("drawn(1, 10112, 5)", x.drawn(1, 10112, 5), VOID));
    }

    private static void refusedDeeds() {
        due.sentence("What is answered so changes nothing: goes() to redo()");
        unchanged(UnchangedTest::much,
            x -> answer("goes(2, 0, 0)", x.goes(2, 0, 0), BAD),
            x -> answer("goes(0, 5, 1)", x.goes(0, 5, 1), BAD),
            x -> answer("goes(0, 1, 3)", x.goes(0, 1, 3), BAD),
            x -> answer("goes(0, 1, -1)", x.goes(0, 1, -1), BAD),
            x -> answer("goes(0, 0, 1), where he is not", x.goes(0, 0, 1), STATE),
            x -> answer("goes(0, 4, 1), ploughed up", x.goes(0, 4, 1), STATE),
            x -> answer("goes(0, 4, 2), ploughed up", x.goes(0, 4, 2), STATE),
            x -> answer("led(5)", x.led(5), BAD));
    }

    private static void refusedBodies() {
        due.sentence("What is answered so changes nothing: body(), trace(), keep(), count()");
        unchanged(UnchangedTest::much,
            x -> answer("body(8)", x.body(8), BAD),
            x -> answer("body(-1)", x.body(-1), BAD),
            x -> answer("trace(24)", x.trace(24), BAD),
            x -> answer("trace(-1)", x.trace(-1), BAD),
            x -> answer("keep(0, 2)", x.keep(0, 2), BAD),
            x -> answer("keep(0, -2)", x.keep(0, -2), BAD),
            x -> answer("keep(6, 0)", x.keep(6, 0), BAD),
            x -> answer("keep(3, 2)", x.keep(3, 2), BAD),
            x -> answer("count(6)", x.count(6), BAD));
    }

    private static void refusedShelves() {
        due.sentence("What is answered so changes nothing: row(), put(), element(), taken()");
        unchanged(UnchangedTest::much,
            x -> answer("row(6, 0, 1)", x.row(6, 0, 1), BAD),
            x -> answer("row(0, 5, 1)", x.row(0, 5, 1), BAD),
            x -> answer("row(0, -1, 1)", x.row(0, -1, 1), BAD),
            x -> answer("row(0, 0, 61)", x.row(0, 0, 61), BAD),
            x -> answer("row(3, 0, 61)", x.row(3, 0, 61), BAD),
            x -> answer("row(0, 0, -1)", x.row(0, 0, -1), -14),
            x -> answer("row(3, 0, -1)", x.row(3, 0, -1), -14),
            x -> answer("row(4, 0, -1)", x.row(4, 0, -1), -14),
            x -> answer("put(6, 0, 9)", x.put(6, 0, 9), BAD),
            x -> answer("put(4, 0, 9)", x.put(4, 0, 9), -11),
            x -> answer("put(3, 0, 9)", x.put(3, 0, 9), -12),
            x -> answer("put(0, 6, 9)", x.put(0, 6, 9), -13),
            x -> answer("put(0, -1, 9)", x.put(0, -1, 9), -13),
            x -> answer("element(0, 6)", x.element(0, 6), Long.MIN_VALUE),
            x -> answer("taken(4, 0)", x.taken(4, 0), -11),
            x -> answer("taken(3, 1)", x.taken(3, 1), -12),
            x -> answer("taken(0, 0)", x.taken(0, 0), -12),
            x -> answer("taken(3, 8)", x.taken(3, 8), BAD));
    }

    private static void refusedShifts() {
        due.sentence("What is answered so changes nothing: shift()");
        int[][] wrong = {{6, 0, 0, 0, 1, BAD}, {0, 0, 6, 0, 1, BAD}, {0, 0, 4, 0, 1, -11}, {4, 0, 0, 0, 1, -11}, {0, 0, 3, 0, 1, -12}, {3, 0, 0, 0, 1, -12},
            {0, 0, 1, 0, 1, -12}, {1, 0, 0, 0, 1, -12}, {0, 0, 0, 1, 6, -13}, {0, 1, 0, 0, 6, -13}, {0, -1, 0, 1, 2, -13}, {0, 1, 0, -1, 2, -13},
            {0, 5, 0, 0, 2, -13}, {0, 0, 0, 5, 2, -13}, {0, 1, 0, 0, -1, -13}};
        for (int[] w : wrong) {
            String call = "shift(" + w[0] + ", " + w[1] + ", " + w[2] + ", " + w[3] + ", " + w[4] + ")";
            unchanged(UnchangedTest::much, x -> answer(call, x.shift(w[0], w[1], w[2], w[3], w[4]), w[5]));
        }
    }

    private static void refusedWhenFull() {
        due.sentence("What is answered so changes nothing: FULL");
        unchanged(UnchangedTest::fullOfRoads,
            x -> answer("road(56, 7)", x.road(56, 7), FULL),
            x -> answer("roads(0, 0, 1)", x.roads(0, 0, 1), 0),
            x -> answer("traveller(5)", x.traveller(5), FULL),
            x -> answer("redo()", x.redo(), STATE),
            x -> answer("back()", x.back(), STATE));
        unchanged(UnchangedTest::fullOfBytes,
            x -> answer("feed('m')", x.feed('m'), FULL),
            x -> answer("feed(256)", x.feed(256), BAD));
        unchanged(UnchangedTest::fullOfBodies,
            x -> answer("body(0)", x.body(0), FULL),
            x -> answer("body(8)", x.body(8), BAD),
            x -> answer("keep(0, 50)", x.keep(0, 50), BAD));
    }

    private static void refusedWhenNew() {
        due.sentence("What is answered so changes nothing: a new object");
        unchanged(UnchangedTest::made,
            x -> answer("undo()", x.undo(), STATE),
            x -> answer("redo()", x.redo(), STATE),
            x -> answer("back()", x.back(), STATE),
            x -> answer("best(0)", x.best(0), NOT),
            x -> answer("goes(0, 0, 0)", x.goes(0, 0, 0), BAD),
            x -> answer("mend(0, 0, 5)", x.mend(0, 0, 5), VOID),
            x -> answer("act(0, 0, 5)", x.act(0, 0, 5), 0),
            x -> answer("trace(0)", x.trace(0), BAD),
            x -> answer("keep(0, 0)", x.keep(0, 0), BAD),
            x -> answer("keep(0, -1)", x.keep(0, -1), 1));
    }

    private static void thoughtsOfWays() {
        due.sentence("IN THOUGHT: hours() to round() change nothing");
        unchanged(UnchangedTest::much,
            x -> x.hours(0),
            x -> x.hours(-1),
            x -> x.way(3, 0),
            x -> x.reach(0, 50, 1),
            x -> x.needed(3),
            x -> x.longer(3, 2),
            x -> x.trip(0, 0, 0),
            x -> x.trip(0, 0, 11),
            x -> x.round(0, 14, 0));
    }

    private static void thoughtsOfThanks() {
        due.sentence("IN THOUGHT: least() to ring() change nothing");
        unchanged(UnchangedTest::much,
            x -> x.least(3, 60, 2),
            x -> x.least(3, 1, -1),
            x -> x.best(0),
            x -> x.best(1),
            x -> x.anger(0),
            x -> x.peace(1),
            x -> x.ring(2, 0),
            x -> x.ring(2, 1));
    }

    private static void thoughtsOfSundays() {
        due.sentence("IN THOUGHT: judge() to drawn() change nothing");
        unchanged(UnchangedTest::much,
            x -> x.judge(1),
            x -> x.sunday(1, 0),
            x -> x.sunday(1, 1),
            x -> x.sunday(1, 2),
            x -> x.byTurns(3, 1, 0),
            x -> x.byTurns(3, 2, 1),
            x -> x.drawn(7, 304006, -1),
            x -> x.drawn(7, 304006, 2));
    }

    private static void whatIsAsked() {
        due.sentence("what is asked alone changes nothing: of(), led(), trace(), element(), taken(), count()");
        unchanged(UnchangedTest::much,
            x -> x.of(0, 1),
            x -> x.led(2),
            x -> x.trace(0),
            x -> x.element(2, 1),
            x -> x.taken(3, 0),
            x -> x.count(3));
    }

    private static void sameNumbers() {
        due.sentence("telling the same number is none: it changes nothing");
        for (int what = 0; what <= 5; what++) {
            int w = what;
            unchanged(UnchangedTest::much, x -> x.mend(0, w, x.of(0, w)), x -> x.mend(1, w, x.of(1, w)));
        }
    }

    private static void oneObjectAndAnother() {
        due.sentence("RoadsThanked(): one object's calls change nothing of another one");
        RoadsThanked early = new RoadsThanked();
        List<String> wantMuch = readAll(much());
        List<String> wantNew = readAll(new RoadsThanked());
        RoadsThanked x = much();
        RoadsThanked late = new RoadsThanked();
        readAll(much());
        readAll(fullOfRoads());
        due.is("one with much, beside others", readAll(x).equals(wantMuch) ? 1 : 0, 1);
        due.is("a new one, made ahead of others", readAll(early).equals(wantNew) ? 1 : 0, 1);
        due.is("a new one, made behind others", readAll(late).equals(wantNew) ? 1 : 0, 1);
    }
}
