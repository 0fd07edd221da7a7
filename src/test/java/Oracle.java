import java.util.ArrayList;
import java.util.List;

/**
 * The document once more, slowly and by other means than the class: texts are worked out by cutting
 * them at their loosest sign, ways are found by going through all of them, sets by lists.
 */
final class Oracle {
    private static final int BAD = -1, NOT = -2, FULL = -3, STATE = -5, VOID = -2000000000;

    private static final class Road {
        int from, to, length, mood, jealous = -1, ploughed;

        Road(int from, int to, int length) {
            this.from = from;
            this.to = to;
            this.length = length;
        }

        int across(int place) {
            return place == from ? to : place == to ? from : -1;
        }
    }

    private static final class Man {
        int place, manners = 6;
    }

    private record Change(int number, int what, int was, int is) { }

    private record Image(List<Integer> moods, List<Integer> places, int[] led) { }

    private record Row(int sort, long[] elements) { }

    private final List<Road> net = new ArrayList<>();
    private final List<Man> men = new ArrayList<>();
    private String tape = "";
    private String text;
    private final int[] led = new int[5];
    private final List<Change> done = new ArrayList<>();
    private final List<Change> undone = new ArrayList<>();
    private Image kept;
    private final List<Integer> stones = new ArrayList<>();
    private final List<Integer> notes = new ArrayList<>();
    private final Object[] shelves = new Object[6];

    // ---- numbers that fit

    private static boolean in(int v, int low, int high) {
        return low <= v && v <= high;
    }

    private static boolean pair(int ft) {
        return in(ft, 0, 77) && in(ft % 10, 0, 7) && ft % 11 != 0;
    }

    private boolean isRoad(int r) {
        return in(r, 0, net.size() - 1);
    }

    // ---- roads, travellers

    int road(int ft, int length) {
        if (!pair(ft) || !in(length, 1, 99)) {
            return BAD;
        }
        if (net.size() == 12) {
            return FULL;
        }
        net.add(new Road(ft / 10, ft % 10, length));
        return net.size() - 1;
    }

    int roads(int shelf, int i, int n) {
        if (!in(shelf, 0, 5) || !in(n, 1, 12)) {
            return BAD;
        }
        if (shelves[shelf] == null) {
            return 0;
        }
        if (!(shelves[shelf] instanceof Row row) || row.sort != 0) {
            return -12;
        }
        int came = 0;
        for (long at = i; came < n; at += 3) {
            if (at < 0 || at + 2 >= row.elements.length) {
                return came;
            }
            long from = row.elements[(int) at], to = row.elements[(int) at + 1], length = row.elements[(int) at + 2];
            if (from < 0 || from > 7 || to < 0 || to > 7 || road((int) (10 * from + to), (int) length) < 0) {
                return came;
            }
            came++;
        }
        return came;
    }

    int traveller(int place) {
        if (!in(place, 0, 7)) {
            return BAD;
        }
        if (men.size() == 4) {
            return FULL;
        }
        Man man = new Man();
        man.place = place;
        men.add(man);
        return men.size() - 1;
    }

    private void set(int number, int what, int v) {
        switch (what) {
            case 0 -> net.get(number).length = v;
            case 1 -> net.get(number).mood = v;
            case 2 -> net.get(number).jealous = v;
            case 3 -> net.get(number).ploughed = v;
            case 4 -> men.get(number).place = v;
            default -> men.get(number).manners = v;
        }
    }

    int mend(int number, int what, int v) {
        int was = of(number, what);
        boolean fits = switch (what) {
            case 0 -> in(v, 1, 99);
            case 1 -> in(v, -9, 9);
            case 2 -> v == -1 || isRoad(v) && v != number;
            case 3 -> in(v, 0, 1);
            case 4 -> in(v, 0, 7);
            case 5 -> in(v, 0, 12);
            default -> false;
        };
        if (was == VOID || !fits) {
            return VOID;
        }
        if (was != v) {
            set(number, what, v);
            done.add(new Change(number, what, was, v));
            undone.clear();
            if (done.size() > 40) {
                done.remove(0);
            }
        }
        return was;
    }

    int of(int number, int what) {
        if (!in(what, 0, 7) || number < 0 || number >= (what == 4 || what == 5 ? men.size() : net.size())) {
            return VOID;
        }
        return switch (what) {
            case 0 -> net.get(number).length;
            case 1 -> net.get(number).mood;
            case 2 -> net.get(number).jealous;
            case 3 -> net.get(number).ploughed;
            case 4 -> men.get(number).place;
            case 5 -> men.get(number).manners;
            case 6 -> net.get(number).from;
            default -> net.get(number).to;
        };
    }

    int feed(int letter) {
        if (!in(letter, 0, 255)) {
            return BAD;
        }
        if (tape.length() == 120) {
            return FULL;
        }
        tape += (char) letter;
        return tape.length();
    }

    int law() {
        int fault = fault(tape);
        if (fault < 0) {
            text = tape;
        }
        tape = "";
        return fault < 0 ? 1 : -100 - fault;
    }

    /** A machine with a stack of what is open; -1: no fault. */
    private static int fault(String told) {
        StringBuilder open = new StringBuilder();
        StringBuilder compared = new StringBuilder("n");
        boolean asked = false;
        boolean wanted = true;
        int digits = 0;
        for (int at = 0; at < told.length(); at++) {
            char c = told.charAt(at);
            if (c >= '0' && c <= '9') {
                if (!wanted && (digits == 0 || digits == 4)) {
                    return at;
                }
                digits++;
                wanted = false;
                continue;
            }
            digits = 0;
            if (wanted) {
                if ("lmjnrk".indexOf(c) >= 0) {
                    wanted = false;
                } else if ("(!-".indexOf(c) >= 0 && open.length() < 6) {
                    open.append(c);
                    if (c == '(') {
                        compared.append('n');
                    }
                } else {
                    return at;
                }
                continue;
            }
            closePrefixes(open);
            if ("+-*/%".indexOf(c) >= 0) {
                wanted = true;
            } else if ("<=>".indexOf(c) >= 0 && last(compared) == 'n') {
                compared.setCharAt(compared.length() - 1, 'y');
                wanted = true;
            } else if (c == '&' || c == '|') {
                compared.setCharAt(compared.length() - 1, 'n');
                wanted = true;
            } else if (c == ')' && open.length() > 0) {
                open.setLength(open.length() - 1);
                compared.setLength(compared.length() - 1);
            } else if (open.length() == 0 && (c == ';' || c == '?' && !asked)) {
                asked = c == '?';
                compared.setCharAt(0, 'n');
                wanted = true;
            } else {
                return at;
            }
        }
        closePrefixes(open);
        return wanted || open.length() > 0 ? told.length() : -1;
    }

    private static void closePrefixes(StringBuilder open) {
        while (open.length() > 0 && last(open) != '(') {
            open.setLength(open.length() - 1);
        }
    }

    private static char last(StringBuilder b) {
        return b.charAt(b.length() - 1);
    }

    // ---- the law, worked out

    private int value(String e, int[] names) {
        for (String signs : new String[] {"|", "&", "<=>", "+-", "*/%"}) {
            int at = lastOf(e, signs);
            if (at >= 0) {
                return join(e.charAt(at), value(e.substring(0, at), names), value(e.substring(at + 1), names));
            }
        }
        if (e.charAt(0) == '!') {
            return value(e.substring(1), names) == 0 ? 1 : 0;
        }
        if (e.charAt(0) == '-') {
            return -value(e.substring(1), names);
        }
        if (e.charAt(0) == '(') {
            return value(e.substring(1, e.length() - 1), names);
        }
        int name = "lmjnrk".indexOf(e.charAt(0));
        return name >= 0 ? names[name] : Integer.parseInt(e);
    }

    /** The last of these signs that stands between two operands, outside of brackets. */
    private static int lastOf(String e, String signs) {
        int depth = 0;
        for (int at = e.length() - 1; at > 0; at--) {
            char c = e.charAt(at);
            depth += c == ')' ? 1 : c == '(' ? -1 : 0;
            char before = e.charAt(at - 1);
            boolean between = before == ')' || Character.isLetterOrDigit(before);
            if (depth == 0 && c != '(' && between && signs.indexOf(c) >= 0) {
                return at;
            }
        }
        return -1;
    }

    private static int join(char sign, int a, int b) {
        return switch (sign) {
            case '|' -> (a != 0 | b != 0) ? 1 : 0;
            case '&' -> (a != 0 & b != 0) ? 1 : 0;
            case '<' -> a < b ? 1 : 0;
            case '=' -> a == b ? 1 : 0;
            case '>' -> a > b ? 1 : 0;
            case '+' -> a + b;
            case '-' -> a - b;
            case '*' -> a * b;
            case '/' -> b == 0 ? 0 : a / b;
            default -> b == 0 ? 0 : a % b;
        };
    }

    private int worth(int[] names) {
        if (text == null) {
            return names[0] - names[1];
        }
        for (String line : text.split(";")) {
            int mark = line.indexOf('?');
            if (mark < 0) {
                return value(line, names);
            }
            if (value(line.substring(0, mark), names) != 0) {
                return value(line.substring(mark + 1), names);
            }
        }
        return 0;
    }

    // ---- thought: moods as they are handed in, one road ploughed up beside (-1: none)

    private int[] moods() {
        return net.stream().mapToInt(r -> r.mood).toArray();
    }

    private int takes(int r, int[] moods, int beside) {
        Road road = net.get(r);
        int k = 0;
        for (int q = 0; q < net.size(); q++) {
            Road other = net.get(q);
            boolean meets = other.across(road.from) >= 0 || other.across(road.to) >= 0;
            if (q != r && q != beside && other.ploughed == 0 && meets) {
                k++;
            }
        }
        int j = road.jealous < 0 ? 0 : moods[road.jealous];
        int hours = worth(new int[] {road.length, moods[r], j, Math.min(99, led[4]), r, k});
        return hours < 1 ? 1 : Math.min(hours, 99);
    }

    private int[] allTake(int[] moods, int beside) {
        int[] hours = new int[net.size()];
        for (int r = 0; r < hours.length; r++) {
            hours[r] = takes(r, moods, beside);
        }
        return hours;
    }

    private static int sum(int[] a) {
        int s = 0;
        for (int v : a) {
            s += v;
        }
        return s;
    }

    private static int hold(int mood) {
        return mood < -9 ? -9 : mood > 9 ? 9 : mood;
    }

    /** Moods behind a deed: 3 times the road, and the word (below 0: none). */
    private int[] behind(int[] moods, int deed) {
        int[] then = moods.clone();
        if (deed < 0) {
            return then;
        }
        int r = deed / 3;
        if (deed % 3 == 1) {
            then[r] = hold(then[r] + 1);
            for (int q = 0; q < then.length; q++) {
                if (net.get(q).jealous == r) {
                    then[q] = hold(then[q] - 1);
                }
            }
        } else if (deed % 3 == 2) {
            then[r] = hold(then[r] - 2);
        }
        return then;
    }

    /** Floyd's table of fewest hours; a million: no way. */
    private int[][] table(int[] moods, int beside) {
        int[][] t = new int[8][8];
        for (int a = 0; a < 8; a++) {
            for (int b = 0; b < 8; b++) {
                t[a][b] = a == b ? 0 : 1000000;
            }
        }
        int[] hours = allTake(moods, beside);
        for (int r = 0; r < net.size(); r++) {
            Road road = net.get(r);
            if (road.ploughed == 0 && r != beside) {
                t[road.from][road.to] = Math.min(t[road.from][road.to], hours[r]);
                t[road.to][road.from] = t[road.from][road.to];
            }
        }
        for (int m = 0; m < 8; m++) {
            for (int a = 0; a < 8; a++) {
                for (int b = 0; b < 8; b++) {
                    t[a][b] = Math.min(t[a][b], t[a][m] + t[m][b]);
                }
            }
        }
        return t;
    }

    private int fewest(int ft, int[] moods, int beside) {
        return table(moods, beside)[ft / 10][ft % 10];
    }

    // ---- ways

    int hours(int road) {
        if (road != -1 && !isRoad(road)) {
            return BAD;
        }
        return road < 0 ? sum(allTake(moods(), -1)) : takes(road, moods(), -1);
    }

    /** All ways without a place met twice, by rising numbers: the first of fewest hours stays. */
    private List<Integer> shortest(int from, int to) {
        List<List<Integer>> found = new ArrayList<>();
        int[] hours = allTake(moods(), -1);
        int[] best = {1000000};
        follow(from, to, 1 << from, new ArrayList<>(), 0, hours, best, found);
        return found.isEmpty() ? null : found.get(found.size() - 1);
    }

    private void follow(int at, int to, int met, List<Integer> gone, int took, int[] hours, int[] best, List<List<Integer>> found) {
        if (at == to) {
            if (took < best[0]) {
                best[0] = took;
                found.add(new ArrayList<>(gone));
            }
            return;
        }
        for (int r = 0; r < net.size(); r++) {
            int next = net.get(r).across(at);
            if (next >= 0 && net.get(r).ploughed == 0 && (met >> next & 1) == 0) {
                gone.add(r);
                follow(next, to, met | 1 << next, gone, took + hours[r], hours, best, found);
                gone.remove(gone.size() - 1);
            }
        }
    }

    int way(int ft, int k) {
        if (!pair(ft) || k < -2) {
            return BAD;
        }
        List<Integer> ways = shortest(ft / 10, ft % 10);
        if (ways == null) {
            return NOT;
        }
        if (k == -1) {
            int[] hours = allTake(moods(), -1);
            return ways.stream().mapToInt(r -> hours[r]).sum();
        }
        return k == -2 ? ways.size() : k < ways.size() ? ways.get(k) : NOT;
    }

    int reach(int place, int t, int what) {
        if (!in(place, 0, 7) || !in(t, 0, 999) || !in(what, 0, 2)) {
            return BAD;
        }
        int[] far = table(moods(), -1)[place];
        int bits = 0;
        int most = 0;
        for (int p = 7; p >= 0; p--) {
            bits |= far[p] <= t ? 1 << p : 0;
            most = far[p] < 1000000 ? Math.max(most, far[p]) : most;
        }
        if (what != 1) {
            return what == 0 ? bits : most;
        }
        int p = 0;
        while (far[p] != most) {
            p++;
        }
        return p;
    }

    int needed(int ft) {
        if (!pair(ft)) {
            return BAD;
        }
        int bits = 0;
        for (int r = 0; r < net.size(); r++) {
            boolean now = fewest(ft, moods(), -1) < 1000000;
            boolean then = fewest(ft, moods(), r) < 1000000;
            bits |= now && !then ? 1 << r : 0;
        }
        return bits;
    }

    int longer(int ft, int road) {
        if (!pair(ft) || !isRoad(road)) {
            return BAD;
        }
        int now = fewest(ft, moods(), -1);
        int then = fewest(ft, moods(), road);
        return Math.max(now, then) >= 1000000 ? NOT : then < now ? 0 : then - now;
    }

    int trip(int shelf, int place, int what) {
        boolean asks = in(what, 0, 2) || what >= 10 && isRoad(what - 10);
        if (!in(shelf, 0, 5) || !in(place, 0, 7) || !asks || !(shelves[shelf] instanceof Row row) || row.sort != 0) {
            return VOID;
        }
        int[] moods = moods();
        int took = 0;
        int at = place;
        int stuck = NOT;
        for (int i = 0; i < Math.min(20, row.elements.length); i++) {
            int step = (int) row.elements[i];
            if (step < 0 || step >= 3 * net.size()) {
                break;
            }
            Road road = net.get(step / 3);
            if (road.ploughed == 1 || road.from != at && road.to != at) {
                stuck = i;
                break;
            }
            took += takes(step / 3, moods, -1);
            at = road.from + road.to - at;
            moods = behind(moods, step);
        }
        return what == 0 ? took : what == 1 ? at : what == 2 ? stuck : moods[what - 10];
    }

    int round(int place, int set, int k) {
        if (!in(place, 0, 7) || !in(set, 0, 255) || k < -1) {
            return BAD;
        }
        List<Integer> others = new ArrayList<>();
        for (int p = 0; p < 8; p++) {
            if ((set >> p & 1) == 1 && p != place) {
                others.add(p);
            }
        }
        if (others.size() > 5) {
            return STATE;
        }
        int[][] t = table(moods(), -1);
        List<Integer> best = null;
        int fewest = 1000000;
        for (List<Integer> order : orders(others)) {
            int took = 0;
            int at = place;
            for (int p : order) {
                took += t[at][p];
                at = p;
            }
            took += t[at][place];
            if (took < fewest) {
                fewest = took;
                best = order;
            }
        }
        if (best == null) {
            return NOT;
        }
        return k == -1 ? fewest : k < best.size() ? best.get(k) : NOT;
    }

    private static List<List<Integer>> orders(List<Integer> of) {
        List<List<Integer>> all = new ArrayList<>();
        if (of.isEmpty()) {
            all.add(new ArrayList<>());
        }
        for (Integer first : of) {
            List<Integer> rest = new ArrayList<>(of);
            rest.remove(first);
            for (List<Integer> order : orders(rest)) {
                order.add(0, first);
                all.add(order);
            }
        }
        return all;
    }

    // ---- thanks, jealousies

    private List<Integer> fewestThanks(int ft, int t) {
        for (int many = 0; many <= 3; many++) {
            List<Integer> found = thanks(ft, t, many, 0, moods());
            if (found != null) {
                return found;
            }
        }
        return null;
    }

    private List<Integer> thanks(int ft, int t, int left, int lowest, int[] moods) {
        if (left == 0) {
            return fewest(ft, moods, -1) <= t ? new ArrayList<>() : null;
        }
        for (int r = lowest; r < net.size(); r++) {
            List<Integer> found = thanks(ft, t, left - 1, r, behind(moods, 3 * r + 1));
            if (found != null) {
                found.add(0, r);
                return found;
            }
        }
        return null;
    }

    int least(int ft, int t, int k) {
        if (!pair(ft) || !in(t, 0, 999) || k < -1) {
            return BAD;
        }
        List<Integer> found = fewestThanks(ft, t);
        if (found == null) {
            return NOT;
        }
        return k == -1 ? found.size() : k < found.size() ? found.get(k) : NOT;
    }

    int best(int what) {
        if (!in(what, 0, 1)) {
            return BAD;
        }
        int which = NOT;
        int least = NOT;
        for (int r = net.size() - 1; r >= 0; r--) {
            int all = sum(allTake(behind(moods(), 3 * r + 1), -1));
            if (which == NOT || all <= least) {
                which = r;
                least = all;
            }
        }
        return what == 0 ? which : least;
    }

    int anger(int road) {
        if (!isRoad(road)) {
            return BAD;
        }
        int bits = 0;
        for (int r = 0; r < net.size(); r++) {
            bits += net.get(r).jealous == road ? 1 << r : 0;
        }
        return bits;
    }

    int peace(int what) {
        if (!in(what, 0, 1)) {
            return BAD;
        }
        int best = 0;
        for (int bits = (1 << net.size()) - 1; bits > 0; bits--) {
            boolean calm = true;
            for (int r = 0; r < net.size(); r++) {
                int of = net.get(r).jealous;
                calm &= of < 0 || (bits & 1 << r) == 0 || (bits & 1 << of) == 0;
            }
            if (calm && Integer.bitCount(bits) >= Integer.bitCount(best)) {
                best = bits;
            }
        }
        return what == 0 ? Integer.bitCount(best) : best;
    }

    int ring(int road, int what) {
        if (!isRoad(road) || !in(what, 0, 1)) {
            return BAD;
        }
        List<Integer> met = new ArrayList<>();
        int at = road;
        while (at >= 0 && !met.contains(at)) {
            met.add(at);
            at = net.get(at).jealous;
        }
        return what == 1 ? met.size() - 1 : at == road ? met.size() : NOT;
    }

    // ---- Sundays, turns

    private int refusal(int shelf) {
        if (!in(shelf, 0, 5)) {
            return BAD;
        }
        return shelves[shelf] == null ? -11 : shelves[shelf] instanceof Row row && row.sort == 1 ? 0 : -12;
    }

    private int judged(long[] row, int[] moods) {
        for (int i = 0; i < row.length; i++) {
            if (i >= net.size() || takes(i, moods, -1) != row[i]) {
                return i;
            }
        }
        return NOT;
    }

    int judge(int shelf) {
        int refusal = refusal(shelf);
        return refusal < 0 ? refusal : judged(((Row) shelves[shelf]).elements, moods());
    }

    /** Real deeds, by rising numbers. */
    private List<Integer> deeds() {
        List<Integer> all = new ArrayList<>();
        for (int d = 0; d < 3 * net.size(); d++) {
            if (d % 3 != 0) {
                all.add(d);
            }
        }
        return all;
    }

    int sunday(int shelf, int what) {
        if (!in(shelf, 0, 5) || !in(what, 0, 2)) {
            return BAD;
        }
        if (refusal(shelf) < 0) {
            return refusal(shelf);
        }
        long[] row = ((Row) shelves[shelf]).elements;
        List<Integer> one = new ArrayList<>();
        int two = 0;
        if (judged(row, moods()) == NOT) {
            one.add(-1);
        }
        for (int d : deeds()) {
            int[] then = behind(moods(), d);
            if (judged(row, then) == NOT) {
                one.add(d);
            }
            for (int e : deeds()) {
                two += judged(row, behind(then, e)) == NOT ? 1 : 0;
            }
        }
        return what == 0 ? one.size() : what == 2 ? two : one.isEmpty() ? -9 : one.get(0);
    }

    private int turnValue(int ft, int[] moods, int left, boolean first) {
        if (left == 0) {
            return Math.min(999, fewest(ft, moods, -1));
        }
        int best = turnValue(ft, moods, left - 1, !first);
        for (int d : deeds()) {
            int v = turnValue(ft, behind(moods, d), left - 1, !first);
            best = first ? Math.min(best, v) : Math.max(best, v);
        }
        return best;
    }

    int byTurns(int ft, int n, int what) {
        if (!pair(ft) || !in(n, 1, 2) || !in(what, 0, 1)) {
            return BAD;
        }
        int hours = turnValue(ft, moods(), n, true);
        if (what == 0 || turnValue(ft, moods(), n - 1, false) == hours) {
            return what == 0 ? hours : 99;
        }
        for (int d : deeds()) {
            if (turnValue(ft, behind(moods(), d), n - 1, false) == hours) {
                return d;
            }
        }
        return 99;
    }

    int drawn(int seed, int nmm, int road) {
        if (nmm < 0 || !in(nmm / 10000, 1, 30) || !in(nmm % 10000 / 100, 1, 40) || nmm % 100 > 12 || road != -1 && !isRoad(road)) {
            return VOID;
        }
        if (net.isEmpty()) {
            return 0;
        }
        int z = seed;
        int all = 0;
        for (int year = nmm / 10000; year > 0; year--) {
            int[] moods = moods();
            for (int day = nmm % 10000 / 100; day > 0; day--) {
                z = (int) (z * 1103515245L + 12345L);
                int r = (int) ((z & 0xffffffffL) / 256 % net.size());
                boolean thanks = (z & 0xffffffffL) / 65536 % 12 < nmm % 100;
                moods = behind(moods, 3 * r + (thanks ? 1 : 2));
            }
            all += road < 0 ? sum(allTake(moods, -1)) : moods[road];
        }
        return all;
    }

    // ---- in deed

    int goes(int traveller, int road, int word) {
        if (!in(traveller, 0, men.size() - 1) || !isRoad(road) || !in(word, 0, 2)) {
            return BAD;
        }
        Man man = men.get(traveller);
        if (net.get(road).across(man.place) < 0 || net.get(road).ploughed == 1) {
            return STATE;
        }
        int took = takes(road, moods(), -1);
        int[] then = behind(moods(), 3 * road + word);
        for (int r = 0; r < then.length; r++) {
            net.get(r).mood = then[r];
        }
        man.place = net.get(road).across(man.place);
        led[0]++;
        led[1] += took;
        led[2] += word == 1 ? 1 : 0;
        led[3] += word == 2 ? 1 : 0;
        return took;
    }

    int night() {
        net.forEach(r -> r.mood -= Integer.signum(r.mood));
        return ++led[4];
    }

    int led(int what) {
        return in(what, 0, 4) ? led[what] : BAD;
    }

    int image() {
        List<Integer> places = new ArrayList<>();
        men.forEach(m -> places.add(m.place));
        List<Integer> moods = new ArrayList<>();
        net.forEach(r -> moods.add(r.mood));
        kept = new Image(moods, places, led.clone());
        return led[0];
    }

    int back() {
        if (kept == null) {
            return STATE;
        }
        for (int r = 0; r < kept.moods.size(); r++) {
            net.get(r).mood = kept.moods.get(r);
        }
        for (int m = 0; m < kept.places.size(); m++) {
            men.get(m).place = kept.places.get(m);
        }
        System.arraycopy(kept.led, 0, led, 0, 5);
        return led[0];
    }

    int undo() {
        if (done.isEmpty()) {
            return STATE;
        }
        Change c = done.remove(done.size() - 1);
        set(c.number, c.what, c.was);
        undone.add(c);
        return done.size();
    }

    int redo() {
        if (undone.isEmpty()) {
            return STATE;
        }
        Change c = undone.remove(undone.size() - 1);
        set(c.number, c.what, c.is);
        done.add(c);
        return undone.size();
    }

    // ---- acts, by Java's own classes

    private interface Leads {
        int n();

        List<Integer> notes();

        default int leads(int x) {
            notes().add(1);
            return x + n();
        }
    }

    private interface Tells {
        List<Integer> notes();

        int thanks(int x);

        int sulks(int x);

        default int tells(int x) {
            notes().add(2);
            return thanks(x) - sulks(1);
        }
    }

    private static class Stone implements Leads, Tells {
        private final int n;
        private final List<Integer> notes;

        Stone(int n, List<Integer> notes) {
            this.n = n;
            this.notes = notes;
        }

        public int n() {
            return n;
        }

        public List<Integer> notes() {
            return notes;
        }

        public int thanks(int x) {
            notes.add(10);
            return leads(x) * 2;
        }

        public int sulks(int x) {
            notes.add(11);
            return x ^ n;
        }
    }

    private static class Lane extends Stone {
        Lane(int n, List<Integer> notes) {
            super(n, notes);
        }

        public int leads(int x) {
            notes().add(20);
            return super.leads(x) + 3;
        }
    }

    private static class Gravel extends Stone {
        Gravel(int n, List<Integer> notes) {
            super(n, notes);
        }

        public int thanks(int x) {
            notes().add(30);
            return -super.thanks(x);
        }
    }

    private static class Bypass extends Gravel {
        Bypass(int n, List<Integer> notes) {
            super(n, notes);
        }

        public int sulks(int x) {
            notes().add(40);
            return super.sulks(x) * 3;
        }

        public int thanks(int x) {
            notes().add(41);
            return super.thanks(x + 1);
        }
    }

    private static class Bridge extends Lane {
        Bridge(int n, List<Integer> notes) {
            super(n, notes);
        }

        public int sulks(int x) {
            notes().add(50);
            return super.sulks(x) - leads(2);
        }
    }

    private static final class Lord extends Bypass {
        Lord(int n, List<Integer> notes) {
            super(n, notes);
        }

        public int tells(int x) {
            notes().add(60);
            return super.tells(x) ^ 5;
        }
    }

    private static final class Hearse extends Stone {
        Hearse(int n, List<Integer> notes) {
            super(n, notes);
        }

        public int leads(int x) {
            notes().add(70);
            return super.leads(x) * 2;
        }
    }

    private static final class Echo extends Bridge {
        Echo(int n, List<Integer> notes) {
            super(n, notes);
        }

        public int thanks(int x) {
            notes().add(80);
            return super.thanks(x) + sulks(2);
        }

        public int tells(int x) {
            notes().add(81);
            return super.tells(x) - 1;
        }
    }

    private static final Class<?>[] KINDS = {Stone.class, Lane.class, Gravel.class, Bypass.class, Bridge.class, Lord.class, Hearse.class, Echo.class};

    private Stone made(int n) {
        return switch (stones.get(n)) {
            case 0 -> new Stone(n, notes);
            case 1 -> new Lane(n, notes);
            case 2 -> new Gravel(n, notes);
            case 3 -> new Bypass(n, notes);
            case 4 -> new Bridge(n, notes);
            case 5 -> new Lord(n, notes);
            case 6 -> new Hearse(n, notes);
            default -> new Echo(n, notes);
        };
    }

    int body(int kind) {
        if (!in(kind, 0, 7)) {
            return BAD;
        }
        if (stones.size() == 50) {
            return FULL;
        }
        stones.add(kind);
        return stones.size() - 1;
    }

    int act(int body, int act, int x) {
        notes.clear();
        if (!in(body, 0, stones.size() - 1) || !in(act, 0, 3)) {
            return 0;
        }
        Stone stone = made(body);
        return switch (act) {
            case 0 -> stone.leads(x);
            case 1 -> stone.thanks(x);
            case 2 -> stone.sulks(x);
            default -> stone.tells(x);
        };
    }

    int trace(int i) {
        return in(i, 0, Math.min(24, notes.size()) - 1) ? notes.get(i) : BAD;
    }

    // ---- shelves

    int keep(int shelf, int body) {
        if (!in(shelf, 0, 5) || !in(body, -1, stones.size() - 1)) {
            return BAD;
        }
        shelves[shelf] = body < 0 ? null : Integer.valueOf(body);
        return 1;
    }

    int row(int shelf, int sort, int n) {
        if (!in(shelf, 0, 5) || !in(sort, 0, 4) || n > 60) {
            return BAD;
        }
        if (n < 0) {
            return -14;
        }
        shelves[shelf] = new Row(sort, new long[n]);
        return 1;
    }

    private int refusal(int shelf, int i) {
        if (!in(shelf, 0, 5)) {
            return BAD;
        }
        if (shelves[shelf] == null) {
            return -11;
        }
        return !(shelves[shelf] instanceof Row row) ? -12 : in(i, 0, row.elements.length - 1) ? 1 : -13;
    }

    int put(int shelf, int i, long v) {
        int answer = refusal(shelf, i);
        if (answer == 1) {
            Row row = (Row) shelves[shelf];
            row.elements[i] = switch (row.sort) {
                case 0 -> v << 56 >> 56;
                case 1 -> v << 48 >> 48;
                case 2 -> v << 32 >> 32;
                case 3 -> v;
                default -> v == 0 ? 0 : 1;
            };
        }
        return answer;
    }

    long element(int shelf, int i) {
        return refusal(shelf, i) == 1 ? ((Row) shelves[shelf]).elements[i] : Long.MIN_VALUE;
    }

    int shift(int shelf, int i, int other, int j, int n) {
        if (!in(shelf, 0, 5) || !in(other, 0, 5)) {
            return BAD;
        }
        if (shelves[shelf] == null || shelves[other] == null) {
            return -11;
        }
        if (!(shelves[shelf] instanceof Row a) || !(shelves[other] instanceof Row b) || a.sort != b.sort) {
            return -12;
        }
        if (i < 0 || j < 0 || n < 0 || (long) i + n > a.elements.length || (long) j + n > b.elements.length) {
            return -13;
        }
        long[] before = a.elements.clone();
        for (int e = 0; e < n; e++) {
            b.elements[j + e] = before[i + e];
        }
        return n;
    }

    int taken(int shelf, int k) {
        if (!in(shelf, 0, 5) || !in(k, 0, 7)) {
            return BAD;
        }
        if (shelves[shelf] == null) {
            return -11;
        }
        return shelves[shelf] instanceof Integer stone && KINDS[k].isInstance(made(stone)) ? stones.get(stone) : -12;
    }

    int count(int what) {
        return switch (what) {
            case 0 -> net.size();
            case 1 -> men.size();
            case 2 -> tape.length();
            case 3 -> done.size();
            case 4 -> stones.size();
            case 5 -> notes.size();
            default -> BAD;
        };
    }
}
