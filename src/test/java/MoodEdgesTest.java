/**
 * THANKS, a SLIGHT and NOTHING at the edges of a MOOD, in deed and in each kind of thought: for all
 * moods at which something is held, roads 1 and 2 jealous of 0 and road 3 jealous of 1.
 */
final class MoodEdgesTest {
    private static final int[] JEALOUS = {-1, 0, 0, 1};
    private static final int[] EDGES = {-9, -8, -7, 0, 7, 8, 9};
    private static final Due due = new Due("MoodEdgesTest");
    /** Whether hours go by the law, which then looks at the mood of the road that one is jealous of, too. */
    private static boolean byLaw;

    /** What a test asks of a net whose roads are in these moods. */
    private interface Asked {
        void of(RoadsThanked x, int[] moods);
    }

    public static void main(String[] args) {
        all();
        byLaw = true;
        all();
        thanksAngerAllAndNoOthers();
        due.end();
    }

    private static void all() {
        inDeedThanks();
        inDeedSlight();
        inDeedNothing();
        inATrip();
        inATripOneBehindTheOther();
        inLeast();
        inBest();
        byOne();
        byTwo();
        byOneTurn();
        byTwoTurns();
        byADay();
        byAFewDays();
        aNight();
    }

    /** The four roads lead from place to place: 0, 1, 2, 3, 4. */
    private static RoadsThanked four(int... moods) {
        RoadsThanked x = Due.net(1, 50, 12, 50, 23, 50, 34, 50);
        for (int r = 0; r < 4; r++) {
            x.mend(r, 2, JEALOUS[r]);
            x.mend(r, 1, moods[r]);
        }
        for (int place = 0; place < 4; place++) {
            x.traveller(place);
        }
        if (byLaw) {
            Due.law(x, "l-m-2*j");
        }
        return x;
    }

    private static int hours(int[] moods, int road) {
        int other = JEALOUS[road] < 0 || !byLaw ? 0 : moods[JEALOUS[road]];
        return 50 - moods[road] - 2 * other;
    }

    private static void forAllEdges(Asked asked) {
        for (int first : EDGES) {
            for (int second : EDGES) {
                int[] moods = {first, second, -second, first};
                asked.of(four(moods), moods);
            }
        }
    }

    private static int held(int mood) {
        return Math.max(-9, Math.min(9, mood));
    }

    /** Word 1: THANKS; 2: a SLIGHT. */
    private static int[] behind(int[] moods, int road, int word) {
        int[] then = moods.clone();
        if (word == 2) {
            then[road] = held(then[road] - 2);
        }
        if (word == 1) {
            then[road] = held(then[road] + 1);
            for (int r = 0; r < 4; r++) {
                then[r] = JEALOUS[r] == road ? held(then[r] - 1) : then[r];
            }
        }
        return then;
    }

    private static String told(int[] moods) {
        return java.util.Arrays.toString(moods);
    }

    private static void goes(int word) {
        forAllEdges((first, moods) -> {
            for (int r = 0; r < 4; r++) {
                RoadsThanked x = four(moods);
                due.is("goes(" + r + ", " + r + ", " + word + ")", x.goes(r, r, word), hours(moods, r));
                int[] then = behind(moods, r, word);
                for (int q = 0; q < 4; q++) {
                    due.is("of(" + q + ", 1) from " + told(moods) + " behind word " + word + " to " + r, x.of(q, 1), then[q]);
                }
            }
        });
    }

    private static void inDeedThanks() {
        due.sentence("THANKS to a ROAD: its MOOD is one more; MOOD of each ROAD that is JEALOUS of it is one less (within -9 .. 9)");
        goes(1);
    }

    private static void inDeedSlight() {
        due.sentence("A SLIGHT: its MOOD is two less (within -9 .. 9)");
        goes(2);
    }

    private static void inDeedNothing() {
        due.sentence("NOTHING changes nothing");
        goes(0);
    }

    private static void thanksAngerAllAndNoOthers() {
        due.sentence("MOOD of each ROAD that is JEALOUS of it is one less");
        RoadsThanked x = Due.fullNet();
        x.traveller(0);
        for (int r = 0; r < 11; r++) {
            x.mend(r, 2, 11);
        }
        x.mend(4, 2, 3);
        x.mend(11, 2, 0);
        x.mend(5, 3, 1);
        x.goes(0, 11, 1);
        for (int r = 0; r < 11; r++) {
            due.is("mood of " + r, x.of(r, 1), r == 4 ? 0 : -1);
        }
        due.is("mood of 11", x.of(11, 1), 1);
        x.goes(0, 3, 2);
        due.is("a slight angers none", x.of(4, 1), 0);
        x.goes(0, 4, 1);
        due.is("nor do thanks to one that is jealous anger the other", x.of(3, 1), -3);
    }

    private static void inATrip() {
        due.sentence("A TRIP: MOODS change behind each (within -9 .. 9)");
        forAllEdges((x, moods) -> {
            for (int r = 0; r < 4; r++) {
                for (int word = 0; word <= 2; word++) {
                    Due.row(x, 0, 0, 3 * r + word);
                    int[] then = behind(moods, r, word);
                    for (int q = 0; q < 4; q++) {
                        due.is("trip, mood " + q + " from " + told(moods), x.trip(0, r, 10 + q), then[q]);
                    }
                    due.is("trip, hours from " + told(moods), x.trip(0, r, 0), hours(moods, r));
                }
            }
        });
    }

    private static void inATripOneBehindTheOther() {
        due.sentence("A TRIP: as one has gone it, MOODS change behind each: HOURS together");
        forAllEdges((x, moods) -> {
            long[] steps = {1, 4, 4, 1, 2, 5, 3, 0, 2, 2};
            Due.row(x, 0, 0, steps);
            int[] then = moods;
            int hours = 0;
            for (long step : steps) {
                hours += hours(then, (int) step / 3);
                then = behind(then, (int) step / 3, (int) step % 3);
            }
            due.is("trip, hours from " + told(moods), x.trip(0, 0, 0), hours);
            for (int q = 0; q < 4; q++) {
                due.is("trip, mood " + q + " from " + told(moods), x.trip(0, 0, 10 + q), then[q]);
            }
        });
    }

    /** Hours of the whole line, from place 0 to place 4. */
    private static int whole(int[] moods) {
        int hours = 0;
        for (int r = 0; r < 4; r++) {
            hours += hours(moods, r);
        }
        return hours;
    }

    private static void inLeast() {
        due.sentence("LEAST: THANKS by numbers, one behind the other (within -9 .. 9)");
        forAllEdges((x, moods) -> {
            for (int t = whole(moods); t >= whole(moods) - 4; t--) {
                int[] found = leastThanks(moods, t);
                due.is("least(4, " + t + ", -1) from " + told(moods), x.least(4, t, -1), found == null ? -2 : found.length);
                for (int k = 0; k < 4; k++) {
                    int want = found == null || k >= found.length ? -2 : found[k];
                    due.is("least(4, " + t + ", " + k + ") from " + told(moods), x.least(4, t, k), want);
                }
            }
        });
    }

    private static int[] leastThanks(int[] moods, int t) {
        if (whole(moods) <= t) {
            return new int[0];
        }
        int[] two = null;
        int[] three = null;
        for (int a = 0; a < 4; a++) {
            int[] one = behind(moods, a, 1);
            if (whole(one) <= t) {
                return new int[] {a};
            }
            for (int b = a; b < 4; b++) {
                int[] both = behind(one, b, 1);
                two = two == null && whole(both) <= t ? new int[] {a, b} : two;
                for (int c = b; c < 4; c++) {
                    three = three == null && whole(behind(both, c, 1)) <= t ? new int[] {a, b, c} : three;
                }
            }
        }
        return two != null ? two : three;
    }

    private static void inBest() {
        due.sentence("BEST: to which ROAD one more THANKS (within -9 .. 9)");
        forAllEdges((x, moods) -> {
            int which = 0;
            for (int r = 1; r < 4; r++) {
                which = whole(behind(moods, r, 1)) < whole(behind(moods, which, 1)) ? r : which;
            }
            due.is("best(0) from " + told(moods), x.best(0), which);
            due.is("best(1) from " + told(moods), x.best(1), whole(behind(moods, which, 1)));
        });
    }

    private static void writeSunday(RoadsThanked x, int[] moods) {
        Due.row(x, 0, 1, hours(moods, 0), hours(moods, 1), hours(moods, 2), hours(moods, 3));
    }

    private static void byOne() {
        due.sentence("BY ONE: by how many deeds all is so; the least (within -9 .. 9)");
        forAllEdges((x, moods) -> {
            for (int road = 0; road < 4; road++) {
                for (int word = 1; word <= 2; word++) {
                    int[] wanted = behind(moods, road, word);
                    int many = java.util.Arrays.equals(wanted, moods) ? 1 : 0;
                    int least = many == 1 ? -1 : -9;
                    for (int d = 0; d < 12; d++) {
                        if (d % 3 != 0 && java.util.Arrays.equals(behind(moods, d / 3, d % 3), wanted)) {
                            many++;
                            least = least == -9 ? d : least;
                        }
                    }
                    writeSunday(x, wanted);
                    due.is("sunday(0, 0) from " + told(moods) + " to " + told(wanted), x.sunday(0, 0), many);
                    due.is("sunday(0, 1) from " + told(moods) + " to " + told(wanted), x.sunday(0, 1), least);
                }
            }
        });
    }

    private static void byTwo() {
        due.sentence("BY TWO: by how many pairs of deeds, one behind the other (within -9 .. 9)");
        forAllEdges((x, moods) -> {
            for (int pair : new int[] {11, 12, 21, 22, 14, 41, 15, 24, 42, 45, 54, 17, 71, 44, 78}) {
                int[] wanted = behind(behind(moods, pair / 10 / 3, pair / 10 % 3), pair % 10 / 3, pair % 10 % 3);
                int many = 0;
                for (int d = 0; d < 144; d++) {
                    int first = d / 12;
                    int second = d % 12;
                    if (first % 3 != 0 && second % 3 != 0) {
                        int[] then = behind(behind(moods, first / 3, first % 3), second / 3, second % 3);
                        many += java.util.Arrays.equals(then, wanted) ? 1 : 0;
                    }
                }
                writeSunday(x, wanted);
                due.is("sunday(0, 2) from " + told(moods) + " to " + told(wanted), x.sunday(0, 2), many);
            }
        });
    }

    /** Hours if both do their best and the next deed is the first one's, or the other one's. */
    private static int turns(int[] moods, int left, boolean first) {
        if (left == 0) {
            return whole(moods);
        }
        int best = turns(moods, left - 1, !first);
        for (int d = 0; d < 12; d++) {
            if (d % 3 != 0) {
                int hours = turns(behind(moods, d / 3, d % 3), left - 1, !first);
                best = first ? Math.min(best, hours) : Math.max(best, hours);
            }
        }
        return best;
    }

    private static int firstDeed(int[] moods, int n) {
        int best = turns(moods, n, true);
        if (turns(moods, n - 1, false) == best) {
            return 99;
        }
        for (int d = 0; d < 12; d++) {
            if (d % 3 != 0 && turns(behind(moods, d / 3, d % 3), n - 1, false) == best) {
                return d;
            }
        }
        return -1;
    }

    private static void byTurns(int n) {
        forAllEdges((x, moods) -> {
            due.is("byTurns(4, " + n + ", 0) from " + told(moods), x.byTurns(4, n, 0), turns(moods, n, true));
            due.is("byTurns(4, " + n + ", 1) from " + told(moods), x.byTurns(4, n, 1), firstDeed(moods, n));
        });
    }

    private static void byOneTurn() {
        due.sentence("BY TURNS, n 1: one deed, or none (within -9 .. 9)");
        byTurns(1);
    }

    private static void byTwoTurns() {
        due.sentence("BY TURNS, n 2: one deed each, or none (within -9 .. 9)");
        byTurns(2);
    }

    /** Moods at the end of one year that begins with this z, and whole() of it behind them. */
    private static int[] year(int[] moods, int seed, int days, int manners) {
        int z = seed;
        int[] then = moods;
        for (int day = 0; day < days; day++) {
            z = z * 1103515245 + 12345;
            then = behind(then, (z >>> 8) % 4, (z >>> 16) % 12 < manners ? 1 : 2);
        }
        return then;
    }

    private static void drawn(int days, int manners) {
        int[] seed = {-7};
        forAllEdges((x, moods) -> {
            for (int tries = 0; tries < 8; tries++) {
                seed[0] = seed[0] * 31 + 7;
                int[] then = year(moods, seed[0], days, manners);
                int nmm = 10000 + 100 * days + manners;
                for (int r = 0; r < 4; r++) {
                    due.is("drawn(" + seed[0] + ", " + nmm + ", " + r + ") from " + told(moods), x.drawn(seed[0], nmm, r), then[r]);
                }
                due.is("drawn(" + seed[0] + ", " + nmm + ", -1) from " + told(moods), x.drawn(seed[0], nmm, -1), whole(then));
            }
        });
    }

    private static void byADay() {
        due.sentence("DRAWN: THANKS, else a SLIGHT, of one day (within -9 .. 9)");
        drawn(1, 12);
        drawn(1, 0);
        drawn(1, 6);
    }

    private static void byAFewDays() {
        due.sentence("DRAWN: THANKS, else a SLIGHT, day by day (within -9 .. 9)");
        drawn(7, 12);
        drawn(7, 0);
        drawn(40, 7);
    }

    private static void aNight() {
        due.sentence("a NIGHT: each MOOD is one nearer to 0");
        for (int mood = -9; mood <= 9; mood++) {
            RoadsThanked x = four(mood, -mood, 0, mood);
            x.mend(3, 3, 1);
            for (int night = 1; night <= 10; night++) {
                x.night();
                int size = Math.max(0, Math.abs(mood) - night);
                due.is("mood of 0, from " + mood, x.of(0, 1), size * Integer.signum(mood));
                due.is("mood of 1, from " + -mood, x.of(1, 1), -size * Integer.signum(mood));
                due.is("mood of 2, from 0", x.of(2, 1), 0);
                due.is("mood of 3, ploughed up, from " + mood, x.of(3, 1), size * Integer.signum(mood));
            }
        }
    }
}
