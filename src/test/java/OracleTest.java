import java.util.ArrayList;
import java.util.List;
import java.util.Random;

/** Long random runs of calls, the class's answers against those of the slow model. */
final class OracleTest {
    /** An object is used for at most 512 calls, and one step asks at most some hundred. */
    private static final int RUNS = 900, BEGINNING = 30, CALLS = 400, LONGEST_TEXT = 90;
    private static final int[] EDGES = {Integer.MIN_VALUE, -1000, -3, -2, -1, 0, 1, 8, 12, 13, 60, 61, 99, 100, 256, 1000, Integer.MAX_VALUE};
    private static final String LETTERS = "lmjnrk0123456789|&<=>+-*/%()!-?;";

    private final Random random;
    private final RoadsThanked x = new RoadsThanked();
    private final Oracle o = new Oracle();
    private final List<String> told = new ArrayList<>();
    private int roads;

    private OracleTest(long seed) {
        random = new Random(seed);
    }

    public static void main(String[] args) {
        int wrong = 0;
        long asked = 0;
        for (int seed = 0; seed < RUNS; seed++) {
            OracleTest test = new OracleTest(seed);
            boolean good = true;
            while (good && test.told.size() < CALLS) {
                good = test.told.size() < BEGINNING ? test.begin() : test.step();
            }
            asked += test.told.size();
            if (!good) {
                wrong++;
                System.out.println("OracleTest, seed " + seed + ": " + String.join("; ", test.told));
            }
        }
        System.out.println("OracleTest: " + asked + " calls, " + wrong + " runs of " + RUNS + " wrong");
        if (wrong != 0) {
            System.exit(1);
        }
    }

    private boolean same(String call, long got, long want) {
        told.add(call + " -> " + got);
        if (got != want) {
            told.add("due is " + want);
        }
        return got == want;
    }

    /** A number from 0 to high, most often; at times one beside or far off. */
    private int num(int low, int high) {
        int dice = random.nextInt(60);
        if (dice == 0) {
            return EDGES[random.nextInt(EDGES.length)];
        }
        if (dice == 1) {
            return low - 1;
        }
        if (dice == 2) {
            return high + 1;
        }
        return high < low ? low : low + random.nextInt(high - low + 1);
    }

    private int pair() {
        if (random.nextInt(40) == 0) {
            return num(0, 99);
        }
        int from = random.nextInt(6);
        int to = random.nextInt(6);
        return 10 * from + (from == to ? (from + 1) % 6 : to);
    }

    private int aRoad() {
        return num(0, Math.max(0, roads - 1));
    }

    private boolean begin() {
        int dice = random.nextInt(10);
        if (dice < 4) {
            return road();
        }
        return dice < 9 ? mend() : traveller();
    }

    private boolean road() {
        int ft = pair();
        int length = random.nextBoolean() ? num(1, 12) : num(1, 99);
        roads = Math.min(12, roads + 1);
        return same("road(" + ft + ", " + length + ")", x.road(ft, length), o.road(ft, length));
    }

    private boolean traveller() {
        int place = num(0, 5);
        return same("traveller(" + place + ")", x.traveller(place), o.traveller(place));
    }

    private boolean mend() {
        int what = num(0, 5);
        int number = what > 3 ? num(0, 3) : aRoad();
        int v = switch (what) {
            case 0 -> num(1, 99);
            case 1 -> num(-9, 9);
            case 2 -> num(-1, Math.max(0, roads - 1));
            case 3 -> random.nextInt(4) == 0 ? 1 : 0;
            case 4 -> num(0, 5);
            default -> num(0, 12);
        };
        return same("mend(" + number + ", " + what + ", " + v + ")", x.mend(number, what, v), o.mend(number, what, v));
    }

    private boolean step() {
        int dice = random.nextInt(100);
        if (dice < 14) {
            return dice < 2 ? road() : dice < 3 ? traveller() : mend();
        }
        if (dice < 20) {
            return lawStep();
        }
        if (dice < 40) {
            return wayStep();
        }
        if (dice < 52) {
            return thanksStep();
        }
        if (dice < 60) {
            return sundayStep();
        }
        if (dice < 75) {
            return deedStep();
        }
        return shelfStep();
    }

    private boolean lawStep() {
        String text = random.nextInt(3) == 0 ? noise() : expression(3) + lines();
        if (text.length() > LONGEST_TEXT) {
            text = text.substring(0, LONGEST_TEXT);
        }
        boolean good = true;
        for (char letter : text.toCharArray()) {
            good &= same("feed(" + (int) letter + ")", x.feed(letter), o.feed(letter));
        }
        int odd = num(0, 255);
        if (random.nextInt(20) == 0) {
            good &= same("feed(" + odd + ")", x.feed(odd), o.feed(odd));
        }
        return good & (random.nextInt(8) == 0 || same("law()", x.law(), o.law()));
    }

    private String noise() {
        StringBuilder b = new StringBuilder(random.nextBoolean() ? expression(2) : "");
        for (int i = random.nextInt(9); i > 0; i--) {
            b.append(LETTERS.charAt(random.nextInt(LETTERS.length())));
        }
        return b.toString();
    }

    private String lines() {
        StringBuilder b = new StringBuilder();
        if (random.nextBoolean()) {
            b.append('?').append(expression(2));
        }
        for (int i = random.nextInt(3); i > 0; i--) {
            b.append(';').append(expression(2));
            if (random.nextBoolean()) {
                b.append('?').append(expression(1));
            }
        }
        return b.toString();
    }

    private String expression(int depth) {
        int dice = random.nextInt(10);
        if (depth == 0 || dice < 2) {
            return random.nextInt(3) == 0 ? "" + random.nextInt(random.nextInt(4) == 0 ? 10000 : 30) : "" + "lmjnrk".charAt(random.nextInt(6));
        }
        if (dice == 2) {
            return (random.nextBoolean() ? "!" : "-") + expression(depth - 1);
        }
        if (dice == 3) {
            return "(" + expression(depth - 1) + ")";
        }
        return expression(depth - 1) + "|&<=>++--**/%+-".charAt(random.nextInt(15)) + expression(depth - 1);
    }

    private boolean wayStep() {
        int ft = pair();
        int r = aRoad();
        int place = num(0, 5);
        int k = num(-2, 4);
        int t = random.nextBoolean() ? num(0, 60) : num(0, 999);
        switch (random.nextInt(7)) {
            case 0:
                r = random.nextInt(3) == 0 ? -1 : r;
                return same("hours(" + r + ")", x.hours(r), o.hours(r));
            case 1:
                return same("way(" + ft + ", " + k + ")", x.way(ft, k), o.way(ft, k));
            case 2:
                int what = num(0, 2);
                return same("reach(" + place + ", " + t + ", " + what + ")", x.reach(place, t, what), o.reach(place, t, what));
            case 3:
                return same("needed(" + ft + ")", x.needed(ft), o.needed(ft));
            case 4:
                return same("longer(" + ft + ", " + r + ")", x.longer(ft, r), o.longer(ft, r));
            case 5:
                int asked = random.nextInt(3) == 0 ? 10 + r : num(0, 2);
                int shelf = num(0, 5);
                return same("trip(" + shelf + ", " + place + ", " + asked + ")", x.trip(shelf, place, asked), o.trip(shelf, place, asked));
            default:
                int set = random.nextInt(4) == 0 ? num(0, 255) : num(0, 63);
                return same("round(" + place + ", " + set + ", " + k + ")", x.round(place, set, k), o.round(place, set, k));
        }
    }

    private boolean thanksStep() {
        int ft = pair();
        int r = aRoad();
        int k = num(-1, 2);
        int what = num(0, 1);
        switch (random.nextInt(6)) {
            case 0:
            case 1:
                int now = o.way(ft, -1);
                int t = now > 0 && random.nextInt(5) > 0 ? Math.max(0, now - random.nextInt(5)) : num(0, 999);
                return same("least(" + ft + ", " + t + ", " + k + ")", x.least(ft, t, k), o.least(ft, t, k));
            case 2:
                return same("best(" + what + ")", x.best(what), o.best(what));
            case 3:
                return same("anger(" + r + ")", x.anger(r), o.anger(r));
            case 4:
                return same("peace(" + what + ")", x.peace(what), o.peace(what));
            default:
                return same("ring(" + r + ", " + what + ")", x.ring(r, what), o.ring(r, what));
        }
    }

    private boolean sundayStep() {
        int shelf = num(0, 5);
        switch (random.nextInt(4)) {
            case 0:
                return same("judge(" + shelf + ")", x.judge(shelf), o.judge(shelf));
            case 1:
                int asked = num(0, 2);
                return writeSunday(shelf) & same("sunday(" + shelf + ", " + asked + ")", x.sunday(shelf, asked), o.sunday(shelf, asked));
            case 2:
                int ft = pair();
                int n = num(1, 2);
                int what = num(0, 1);
                return same("byTurns(" + ft + ", " + n + ", " + what + ")", x.byTurns(ft, n, what), o.byTurns(ft, n, what));
            default:
                int seed = random.nextInt();
                int nmm = 10000 * num(1, 30) + 100 * num(1, 40) + num(0, 12);
                int r = random.nextBoolean() ? -1 : aRoad();
                return same("drawn(" + seed + ", " + nmm + ", " + r + ")", x.drawn(seed, nmm, r), o.drawn(seed, nmm, r));
        }
    }

    /** Hours as they are, at times with a small slip, so that deeds may fit. */
    private boolean writeSunday(int shelf) {
        int n = num(0, roads);
        boolean good = same("row(" + shelf + ", 1, " + n + ")", x.row(shelf, 1, n), o.row(shelf, 1, n));
        for (int i = 0; i < n && i < 13; i++) {
            int v = o.hours(i) + (random.nextInt(5) == 0 ? random.nextInt(5) - 2 : 0);
            good &= same("put(" + shelf + ", " + i + ", " + v + ")", x.put(shelf, i, v), o.put(shelf, i, v));
        }
        return good;
    }

    private boolean deedStep() {
        switch (random.nextInt(12)) {
            case 0:
                return same("night()", x.night(), o.night());
            case 1:
                int what = num(0, 4);
                return same("led(" + what + ")", x.led(what), o.led(what));
            case 2:
                return random.nextInt(3) > 0 ? same("led(0)", x.led(0), o.led(0)) : same("image()", x.image(), o.image());
            case 3:
                return random.nextInt(3) > 0 ? same("led(1)", x.led(1), o.led(1)) : same("back()", x.back(), o.back());
            case 4:
            case 5:
                return same("undo()", x.undo(), o.undo());
            case 6:
                return same("redo()", x.redo(), o.redo());
            default:
                int who = num(0, 3);
                int r = aRoad();
                int word = num(0, 2);
                return same("goes(" + who + ", " + r + ", " + word + ")", x.goes(who, r, word), o.goes(who, r, word));
        }
    }

    private boolean shelfStep() {
        int shelf = num(0, 5);
        int i = num(0, 59);
        switch (random.nextInt(14)) {
            case 0:
                int kind = num(0, 7);
                return same("body(" + kind + ")", x.body(kind), o.body(kind));
            case 1:
            case 2:
                int who = num(0, Math.max(0, o.count(4) - 1));
                int act = num(0, 3);
                int v = random.nextInt();
                return same("act(" + who + ", " + act + ", " + v + ")", x.act(who, act, v), o.act(who, act, v));
            case 3:
                int at = num(0, 13);
                return same("trace(" + at + ")", x.trace(at), o.trace(at));
            case 4:
                int held = num(-1, Math.max(0, o.count(4) - 1));
                return same("keep(" + shelf + ", " + held + ")", x.keep(shelf, held), o.keep(shelf, held));
            case 5:
                int sort = num(0, 4);
                int n = num(0, 60);
                return same("row(" + shelf + ", " + sort + ", " + n + ")", x.row(shelf, sort, n), o.row(shelf, sort, n));
            case 6:
                long put = random.nextBoolean() ? random.nextLong() : random.nextInt(40);
                return same("put(" + shelf + ", " + i + ", " + put + ")", x.put(shelf, i, put), o.put(shelf, i, put));
            case 7:
                return same("element(" + shelf + ", " + i + ")", x.element(shelf, i), o.element(shelf, i));
            case 8:
                int other = num(0, 5);
                int j = num(0, 20);
                int many = num(0, 20);
                return same("shift(" + shelf + ", " + i + ", " + other + ", " + j + ", " + many + ")",
                    x.shift(shelf, i, other, j, many), o.shift(shelf, i, other, j, many));
            case 9:
                int k = num(0, 7);
                return same("taken(" + shelf + ", " + k + ")", x.taken(shelf, k), o.taken(shelf, k));
            case 10:
                int what = num(0, 5);
                return same("count(" + what + ")", x.count(what), o.count(what));
            case 11:
                int number = num(0, 11);
                int asked = num(0, 7);
                return same("of(" + number + ", " + asked + ")", x.of(number, asked), o.of(number, asked));
            case 12:
                return writeTrip(shelf);
            default:
                int from = num(0, 6);
                int came = num(1, 12);
                return same("roads(" + shelf + ", " + from + ", " + came + ")", x.roads(shelf, from, came), o.roads(shelf, from, came));
        }
    }

    /** Steps of roads that hang together, most often, and the trip's answers. */
    private boolean writeTrip(int shelf) {
        boolean good = same("row(" + shelf + ", 0, 24)", x.row(shelf, 0, 24), o.row(shelf, 0, 24));
        int start = random.nextInt(6);
        int at = start;
        for (int i = 0; i < 24; i++) {
            int step = 3 * random.nextInt(12) + random.nextInt(3);
            for (int tries = 0; tries < 40; tries++) {
                int r = random.nextInt(12);
                int from = o.of(r, 6);
                int to = o.of(r, 7);
                if (from == at || to == at) {
                    step = 3 * r + random.nextInt(3);
                    at = from + to - at;
                    break;
                }
            }
            good &= same("put(" + shelf + ", " + i + ", " + step + ")", x.put(shelf, i, step), o.put(shelf, i, step));
        }
        for (int what = 0; what < 13; what++) {
            good &= same("trip(" + shelf + ", " + start + ", " + what + ")", x.trip(shelf, start, what), o.trip(shelf, start, what));
        }
        return good;
    }
}
