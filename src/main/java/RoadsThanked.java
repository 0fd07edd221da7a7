import java.util.Arrays;

/**
 * Roads that must be thanked: a net of roads between places whose hours go by moods, and by a law
 * told as a text. All rows are made once, in constructors, and used again by every call.
 */
public final class RoadsThanked {
    public static final int BAD = -1, NOT = -2, FULL = -3, STATE = -5, VOID = -2000000000;

    private static final int NOTHING_THERE = -11, OTHER_KIND = -12, NO_SUCH_PLACE = -13, SIZE_BELOW_0 = -14;

    private static final int PLACES = 8, ROADS = 12, TRAVELLERS = 4, SHELVES = 6;
    private static final int ALL_PLACES = 255;
    private static final int LONGEST = 99, MOST_MOOD = 9, MOST_MANNERS = 12;
    private static final int THANKS = 1, SLIGHT = 2;
    private static final int NONE = -1;
    /** More hours than any way or round can take, and small enough to be added up. */
    private static final int FAR = 1000000;
    private static final int MOST_TIME = 999;

    /** Numbers of what mend() and of() ask for. */
    private static final int LENGTH = 0, MOOD = 1, JEALOUS = 2, PLOUGHED = 3, PLACE = 4, MANNERS = 5, FROM = 6, TO = 7;
    /** Numbers of what led() asks for. */
    private static final int GONE = 0, HOURS = 1, THANKED = 2, SLIGHTED = 3, NIGHTS = 4, LED = 5;
    private static final int BYTES = 0, SHORTS = 1, INTS = 2, BOOLEANS = 4;
    private static final int ROUND_MOST = 5;
    private static final int TRIP_MOODS = 10;

    private final Net net = new Net();
    private final Reader tape = new Reader();
    private final Law text = new Law();
    private final Thought thought = new Thought(net, text);
    private final Search search = new Search(net, thought);
    private final Rounds rounds = new Rounds(thought);
    private final Walk walk = new Walk(net, thought);
    private final History history = new History(net);
    private final Image kept = new Image(net);
    private final Stones stones = new Stones();
    private final Shelf[] shelves = new Shelf[SHELVES];

    public RoadsThanked() {
        for (int i = 0; i < SHELVES; i++) {
            shelves[i] = new Shelf();
        }
    }

    // ---- roads, travellers

    public int road(int ft, int length) {
        if (!isPair(ft) || !isLength(length)) {
            return BAD;
        }
        return net.addRoad(ft / 10, ft % 10, length);
    }

    public int roads(int shelf, int i, int n) {
        if (!isShelf(shelf) || n < 1 || n > ROADS) {
            return BAD;
        }
        Shelf told = shelves[shelf];
        if (told.isEmpty()) {
            return 0;
        }
        if (!told.isRowOf(BYTES)) {
            return OTHER_KIND;
        }
        int came = 0;
        for (int at = i; came < n && at >= 0 && at <= told.size - 3; at += 3) {
            if (!addRoadFrom(told, at)) {
                break;
            }
            came++;
        }
        return came;
    }

    /** The caller has seen that three elements stand from that place on. */
    private boolean addRoadFrom(Shelf told, int at) {
        int from = (int) told.elements[at];
        int to = (int) told.elements[at + 1];
        int length = (int) told.elements[at + 2];
        if (!isPlace(from) || !isPlace(to) || from == to || !isLength(length)) {
            return false;
        }
        return net.addRoad(from, to, length) >= 0;
    }

    public int traveller(int place) {
        return isPlace(place) ? net.addTraveller(place) : BAD;
    }

    public int mend(int number, int what, int v) {
        if (what > MANNERS || !net.has(number, what) || !net.fits(number, what, v)) {
            return VOID;
        }
        int[] column = net.column(what);
        int was = column[number];
        if (was != v) {
            column[number] = v;
            history.remember(number, what, was, v);
        }
        return was;
    }

    public int of(int number, int what) {
        return net.has(number, what) ? net.column(what)[number] : VOID;
    }

    public int feed(int letter) {
        if (letter < 0 || letter > 255) {
            return BAD;
        }
        return tape.append(letter);
    }

    public int law() {
        int fault = tape.read();
        tape.length = 0;
        if (fault != NONE) {
            return -100 - fault;
        }
        text.take(tape.steps, tape.size);
        return 1;
    }

    // ---- ways

    public int hours(int road) {
        if (road != NONE && !net.isRoad(road)) {
            return BAD;
        }
        thought.begin(NONE);
        return road == NONE ? thought.takesInAll() : thought.takes(road);
    }

    public int way(int ft, int k) {
        if (!isPair(ft) || k < -2) {
            return BAD;
        }
        thought.begin(NONE);
        return thought.tellWay(ft / 10, ft % 10, k);
    }

    public int reach(int place, int t, int what) {
        if (!isPlace(place) || !isTime(t) || what < 0 || what > 2) {
            return BAD;
        }
        thought.begin(NONE);
        thought.measureFrom(place);
        if (what == 0) {
            return thought.placesWithin(t);
        }
        int farthest = thought.farthest();
        return what == 1 ? farthest : thought.distance[farthest];
    }

    public int needed(int ft) {
        if (!isPair(ft)) {
            return BAD;
        }
        int from = ft / 10;
        int to = ft % 10;
        if (!net.joins(from, to, NONE)) {
            return 0;
        }
        int bits = 0;
        for (int r = 0; r < net.roadCount; r++) {
            if (!net.joins(from, to, r)) {
                bits |= 1 << r;
            }
        }
        return bits;
    }

    public int longer(int ft, int road) {
        if (!isPair(ft) || !net.isRoad(road)) {
            return BAD;
        }
        thought.begin(NONE);
        thought.measureFrom(ft / 10);
        int now = thought.distance[ft % 10];
        thought.begin(road);
        thought.measureFrom(ft / 10);
        int then = thought.distance[ft % 10];
        if (now >= FAR || then >= FAR) {
            return NOT;
        }
        // The law's k may make what is left shorter than it was.
        return Math.max(0, then - now);
    }

    public int trip(int shelf, int place, int what) {
        if (!isShelf(shelf) || !isPlace(place) || !isOfTrip(what) || !shelves[shelf].isRowOf(BYTES)) {
            return VOID;
        }
        walk.go(shelves[shelf], place);
        switch (what) {
            case 0: return walk.taken;
            case 1: return walk.place;
            case 2: return walk.stuck;
            default: return thought.moods[what - TRIP_MOODS];
        }
    }

    private boolean isOfTrip(int what) {
        return what >= 0 && what <= 2 || what >= TRIP_MOODS && net.isRoad(what - TRIP_MOODS);
    }

    public int round(int place, int set, int k) {
        if (!isPlace(place) || set < 0 || set > ALL_PLACES || k < -1) {
            return BAD;
        }
        int others = set & ~(1 << place);
        int many = Integer.bitCount(others);
        if (many > ROUND_MOST) {
            return STATE;
        }
        thought.begin(NONE);
        rounds.seek(place, others);
        if (rounds.fewest >= FAR || k >= many) {
            return NOT;
        }
        return k < 0 ? rounds.fewest : rounds.order[k];
    }

    // ---- thanks, jealousies

    public int least(int ft, int t, int k) {
        if (!isPair(ft) || !isTime(t) || k < -1) {
            return BAD;
        }
        int many = search.fewestThanks(ft / 10, ft % 10, t);
        if (many == NOT || k >= many) {
            return NOT;
        }
        return k < 0 ? many : search.picks[k];
    }

    public int best(int what) {
        if (what < 0 || what > 1) {
            return BAD;
        }
        if (net.roadCount == 0) {
            return NOT;
        }
        search.bestThanks();
        return what == 0 ? search.deed : search.value;
    }

    public int anger(int road) {
        return net.isRoad(road) ? net.jealousOf(road) : BAD;
    }

    public int peace(int what) {
        if (what < 0 || what > 1) {
            return BAD;
        }
        int bits = net.mostInPeace();
        return what == 0 ? Integer.bitCount(bits) : bits;
    }

    public int ring(int road, int what) {
        if (!net.isRoad(road) || what < 0 || what > 1) {
            return BAD;
        }
        return what == 0 ? net.ringOf(road) : net.chainFrom(road);
    }

    // ---- Sundays, turns

    public int judge(int shelf) {
        if (!isShelf(shelf)) {
            return BAD;
        }
        int refusal = shelves[shelf].refusalOf(SHORTS);
        if (refusal != 0) {
            return refusal;
        }
        thought.begin(NONE);
        return thought.firstNotSo(shelves[shelf]);
    }

    public int sunday(int shelf, int what) {
        if (!isShelf(shelf) || what < 0 || what > 2) {
            return BAD;
        }
        int refusal = shelves[shelf].refusalOf(SHORTS);
        if (refusal != 0) {
            return refusal;
        }
        if (what == 2) {
            return search.pairsThatFit(shelves[shelf]);
        }
        search.deedsThatFit(shelves[shelf]);
        return what == 0 ? search.value : search.deed;
    }

    public int byTurns(int ft, int n, int what) {
        if (!isPair(ft) || n < 1 || n > 2 || what < 0 || what > 1) {
            return BAD;
        }
        search.takeTurns(ft / 10, ft % 10, n);
        return what == 0 ? search.value : search.deed;
    }

    public int drawn(int seed, int nmm, int road) {
        int years = nmm / 10000;
        int days = nmm / 100 % 100;
        int manners = nmm % 100;
        boolean told = nmm >= 0 && years >= 1 && years <= 30 && days >= 1 && days <= 40 && manners <= MOST_MANNERS;
        if (!told || road != NONE && !net.isRoad(road)) {
            return VOID;
        }
        return search.draw(seed, years, days, manners, road);
    }

    // ---- in deed

    public int goes(int traveller, int road, int word) {
        if (!net.isTraveller(traveller) || !net.isRoad(road) || word < 0 || word > SLIGHT) {
            return BAD;
        }
        int next = net.otherEnd(road, net.places[traveller]);
        if (next == NONE || net.ploughed[road] != 0) {
            return STATE;
        }
        thought.begin(NONE);
        int took = thought.takes(road);
        net.places[traveller] = next;
        net.led[GONE]++;
        net.led[HOURS] += took;
        if (word == THANKS) {
            net.led[THANKED]++;
        } else if (word == SLIGHT) {
            net.led[SLIGHTED]++;
        }
        net.say(net.moods, road, word);
        return took;
    }

    public int night() {
        net.calmMoods();
        net.led[NIGHTS]++;
        return net.led[NIGHTS];
    }

    public int led(int what) {
        return what >= 0 && what < LED ? net.led[what] : BAD;
    }

    public int image() {
        kept.take();
        return net.led[GONE];
    }

    public int back() {
        if (!kept.isThere) {
            return STATE;
        }
        kept.layBack();
        return net.led[GONE];
    }

    public int undo() {
        if (history.done == 0) {
            return STATE;
        }
        history.stepBack();
        return history.done;
    }

    public int redo() {
        if (history.made == history.done) {
            return STATE;
        }
        history.stepOn();
        return history.made - history.done;
    }

    // ---- acts, shelves

    public int body(int kind) {
        return isKind(kind) ? stones.add(kind) : BAD;
    }

    public int act(int body, int act, int x) {
        return stones.perform(body, act, x);
    }

    public int trace(int i) {
        return i >= 0 && i < stones.noted() ? stones.notes[i] : BAD;
    }

    public int keep(int shelf, int body) {
        if (!isShelf(shelf) || body != NONE && !stones.isThere(body)) {
            return BAD;
        }
        shelves[shelf].holdStone(body);
        return 1;
    }

    public int row(int shelf, int sort, int n) {
        if (!isShelf(shelf) || sort < BYTES || sort > BOOLEANS || n > Shelf.MOST) {
            return BAD;
        }
        if (n < 0) {
            return SIZE_BELOW_0;
        }
        shelves[shelf].holdRow(sort, n);
        return 1;
    }

    public int put(int shelf, int i, long v) {
        if (!isShelf(shelf)) {
            return BAD;
        }
        Shelf held = shelves[shelf];
        int refusal = held.refusalAt(i);
        if (refusal != 0) {
            return refusal;
        }
        held.elements[i] = held.cut(v);
        return 1;
    }

    public long element(int shelf, int i) {
        if (!isShelf(shelf) || shelves[shelf].refusalAt(i) != 0) {
            return Long.MIN_VALUE;
        }
        return shelves[shelf].elements[i];
    }

    public int shift(int shelf, int i, int other, int j, int n) {
        if (!isShelf(shelf) || !isShelf(other)) {
            return BAD;
        }
        Shelf source = shelves[shelf];
        Shelf target = shelves[other];
        if (source.isEmpty() || target.isEmpty()) {
            return NOTHING_THERE;
        }
        if (!source.isRow() || !target.isRowOf(source.sort)) {
            return OTHER_KIND;
        }
        if (!source.hasSpan(i, n) || !target.hasSpan(j, n)) {
            return NO_SUCH_PLACE;
        }
        System.arraycopy(source.elements, i, target.elements, j, n);
        return n;
    }

    public int taken(int shelf, int k) {
        if (!isShelf(shelf) || !isKind(k)) {
            return BAD;
        }
        Shelf held = shelves[shelf];
        if (held.isEmpty()) {
            return NOTHING_THERE;
        }
        if (held.isRow() || !stones.isThere(held.stone)) {
            return OTHER_KIND;
        }
        int kind = stones.kinds[held.stone];
        return Stones.isUnder(kind, k) ? kind : OTHER_KIND;
    }

    public int count(int what) {
        switch (what) {
            case 0: return net.roadCount;
            case 1: return net.travellerCount;
            case 2: return tape.length;
            case 3: return history.done;
            case 4: return stones.many;
            case 5: return stones.ran;
            default: return BAD;
        }
    }

    private static boolean isPlace(int place) {
        return place >= 0 && place < PLACES;
    }

    private static boolean isPair(int ft) {
        return ft >= 0 && isPlace(ft / 10) && isPlace(ft % 10) && ft / 10 != ft % 10;
    }

    private static boolean isLength(int length) {
        return length >= 1 && length <= LONGEST;
    }

    private static boolean isTime(int t) {
        return t >= 0 && t <= MOST_TIME;
    }

    private static boolean isShelf(int shelf) {
        return shelf >= 0 && shelf < SHELVES;
    }

    private static boolean isKind(int kind) {
        return kind >= 0 && kind < Stones.KINDS;
    }

    /** What is true now: roads, travellers, and what has been led. */
    private static final class Net {
        int roadCount;
        int travellerCount;
        final int[] from = new int[ROADS];
        final int[] to = new int[ROADS];
        final int[] lengths = new int[ROADS];
        final int[] moods = new int[ROADS];
        final int[] jealous = new int[ROADS];
        final int[] ploughed = new int[ROADS];
        final int[] places = new int[TRAVELLERS];
        final int[] manners = new int[TRAVELLERS];
        final int[] led = new int[LED];

        boolean isRoad(int road) {
            return road >= 0 && road < roadCount;
        }

        boolean isTraveller(int traveller) {
            return traveller >= 0 && traveller < travellerCount;
        }

        int addRoad(int start, int end, int length) {
            if (roadCount >= ROADS) {
                return FULL;
            }
            from[roadCount] = start;
            to[roadCount] = end;
            lengths[roadCount] = length;
            jealous[roadCount] = NONE;
            roadCount++;
            return roadCount - 1;
        }

        int addTraveller(int place) {
            if (travellerCount >= TRAVELLERS) {
                return FULL;
            }
            places[travellerCount] = place;
            manners[travellerCount] = 6;
            travellerCount++;
            return travellerCount - 1;
        }

        boolean has(int number, int what) {
            if (what < LENGTH || what > TO) {
                return false;
            }
            return what == PLACE || what == MANNERS ? isTraveller(number) : isRoad(number);
        }

        int[] column(int what) {
            switch (what) {
                case LENGTH: return lengths;
                case MOOD: return moods;
                case JEALOUS: return jealous;
                case PLOUGHED: return ploughed;
                case PLACE: return places;
                case MANNERS: return manners;
                case FROM: return from;
                default: return to;
            }
        }

        boolean fits(int number, int what, int v) {
            switch (what) {
                case LENGTH: return isLength(v);
                case MOOD: return v >= -MOST_MOOD && v <= MOST_MOOD;
                case JEALOUS: return v == NONE || isRoad(v) && v != number;
                case PLOUGHED: return v == 0 || v == 1;
                case PLACE: return isPlace(v);
                case MANNERS: return v >= 0 && v <= MOST_MANNERS;
                default: return false;
            }
        }

        /** NONE: the road does not end in that place. */
        int otherEnd(int road, int place) {
            if (from[road] == place) {
                return to[road];
            }
            return to[road] == place ? from[road] : NONE;
        }

        boolean touch(int road, int other) {
            return from[other] == from[road] || from[other] == to[road]
                || to[other] == from[road] || to[other] == to[road];
        }

        /** Works on moods that are handed in, as it is done in thought and in deed. */
        void say(int[] some, int road, int word) {
            if (word == SLIGHT) {
                some[road] = Math.max(-MOST_MOOD, some[road] - 2);
            } else if (word == THANKS) {
                some[road] = Math.min(MOST_MOOD, some[road] + 1);
                for (int r = 0; r < roadCount; r++) {
                    if (jealous[r] == road) {
                        some[r] = Math.max(-MOST_MOOD, some[r] - 1);
                    }
                }
            }
        }

        void calmMoods() {
            for (int r = 0; r < roadCount; r++) {
                if (moods[r] > 0) {
                    moods[r]--;
                } else if (moods[r] < 0) {
                    moods[r]++;
                }
            }
        }

        /** Whether a way is there if one more road is ploughed up (NONE: no more). */
        boolean joins(int start, int end, int without) {
            int met = 1 << start;
            for (int i = 0; i < PLACES; i++) {
                int before = met;
                for (int r = 0; r < roadCount; r++) {
                    int ends = 1 << from[r] | 1 << to[r];
                    if (r != without && ploughed[r] == 0 && (met & ends) != 0) {
                        met |= ends;
                    }
                }
                if (met == before) {
                    break;
                }
            }
            return (met >> end & 1) == 1;
        }

        int jealousOf(int road) {
            int bits = 0;
            for (int r = 0; r < roadCount; r++) {
                if (jealous[r] == road) {
                    bits |= 1 << r;
                }
            }
            return bits;
        }

        /** Sets come by rising numbers, so that of like ones the least is found first. */
        int mostInPeace() {
            int most = 0;
            int many = 0;
            int end = 1 << roadCount;
            for (int bits = 1; bits < end; bits++) {
                if (Integer.bitCount(bits) > many && isPeace(bits)) {
                    most = bits;
                    many = Integer.bitCount(bits);
                }
            }
            return most;
        }

        private boolean isPeace(int bits) {
            for (int r = 0; r < roadCount; r++) {
                if ((bits >> r & 1) == 1 && jealous[r] != NONE && (bits >> jealous[r] & 1) == 1) {
                    return false;
                }
            }
            return true;
        }

        int ringOf(int road) {
            int at = jealous[road];
            for (int many = 1; many <= ROADS && at != NONE; many++) {
                if (at == road) {
                    return many;
                }
                at = jealous[at];
            }
            return NOT;
        }

        int chainFrom(int road) {
            int met = 1 << road;
            int many = 0;
            int at = jealous[road];
            while (many < ROADS && at != NONE && (met >> at & 1) == 0) {
                met |= 1 << at;
                many++;
                at = jealous[at];
            }
            return many;
        }
    }

    /** The tape, and how it is read into steps: each one comes behind those whose values it takes. */
    private static final class Reader {
        static final int MOST = 120;
        static final int MINUS = '~';
        private static final int LEVELS = 5, COMPARING = 2;
        private static final int MOST_OPEN = 6, MOST_DIGITS = 4;

        final int[] letters = new int[MOST];
        int length;
        /** Numbers are steps from 0 on; signs and names are steps below 0. */
        final int[] steps = new int[MOST + 1];
        int size;
        private int at;
        private int fault;

        int append(int letter) {
            if (length >= MOST) {
                return FULL;
            }
            letters[length] = letter;
            length++;
            return length;
        }

        /** The fault's place; NONE: there is no fault. */
        int read() {
            size = 0;
            at = 0;
            fault = NONE;
            readLine();
            for (int i = 0; i < MOST && fault == NONE && at < length; i++) {
                at++;
                readLine();
            }
            return fault;
        }

        private void readLine() {
            readJoined(0, 0);
            if (fault == NONE && next() == '?') {
                at++;
                addStep(-'?');
                readJoined(0, 0);
            }
            if (at < length && next() != ';') {
                blame();
            }
            addStep(-';');
        }

        /** Levels 0 to 4 are E, A, B, S, P of the document: what binds closer comes later. */
        private void readJoined(int level, int open) {
            readPart(level, open);
            // A comparison is not gone on with by another one.
            int most = level == COMPARING ? 1 : MOST;
            for (int i = 0; i < most && fault == NONE && isSign(level, next()); i++) {
                int sign = next();
                at++;
                readPart(level, open);
                addStep(-sign);
            }
        }

        private void readPart(int level, int open) {
            if (level + 1 < LEVELS) {
                readJoined(level + 1, open);
            } else {
                readOperand(open);
            }
        }

        private void readOperand(int open) {
            int letter = next();
            if (isDigit(letter)) {
                readNumber();
            } else if (isName(letter)) {
                at++;
                addStep(-letter);
            } else if (open >= MOST_OPEN) {
                blame();
            } else if (letter == '(') {
                at++;
                readJoined(0, open + 1);
                readClosing();
            } else if (letter == '!' || letter == '-') {
                at++;
                readOperand(open + 1);
                addStep(letter == '!' ? -'!' : -MINUS);
            } else {
                blame();
            }
        }

        private void readClosing() {
            if (next() == ')') {
                at++;
            } else {
                blame();
            }
        }

        private void readNumber() {
            int number = 0;
            for (int i = 0; i < MOST_DIGITS && isDigit(next()); i++) {
                number = number * 10 + next() - '0';
                at++;
            }
            addStep(number);
        }

        private int next() {
            return at >= 0 && at < length ? letters[at] : NONE;
        }

        /** What is read behind a fault is not counted: the first one stays. */
        private void blame() {
            if (fault == NONE) {
                fault = at;
            }
        }

        private void addStep(int step) {
            if (size < steps.length) {
                steps[size] = step;
                size++;
            }
        }

        private static boolean isDigit(int letter) {
            return letter >= '0' && letter <= '9';
        }

        private static boolean isName(int letter) {
            return letter == 'l' || letter == 'm' || letter == 'j' || letter == 'n' || letter == 'r' || letter == 'k';
        }

        private static boolean isSign(int level, int letter) {
            switch (level) {
                case 0: return letter == '|';
                case 1: return letter == '&';
                case COMPARING: return letter == '<' || letter == '=' || letter == '>';
                case 3: return letter == '+' || letter == '-';
                default: return letter == '*' || letter == '/' || letter == '%';
            }
        }
    }

    /** The law's steps, worked out one behind the other on a stack. */
    private static final class Law {
        private final int[] steps = new int[Reader.MOST + 1];
        private int size;
        private final int[] stack = new int[Reader.MOST + 1];
        private int top;

        void take(int[] told, int many) {
            size = Math.min(many, steps.length);
            System.arraycopy(told, 0, steps, 0, size);
        }

        /** The parameters bear the names that the document's text gives them. */
        int work(int l, int m, int j, int n, int r, int k) {
            if (size == 0) {
                return l - m;
            }
            top = 0;
            for (int at = 0; at < size; at++) {
                int step = steps[at];
                switch (-step) {
                    case 'l': push(l); break;
                    case 'm': push(m); break;
                    case 'j': push(j); break;
                    case 'n': push(n); break;
                    case 'r': push(r); break;
                    case 'k': push(k); break;
                    case '!': push(pop() == 0 ? 1 : 0); break;
                    case Reader.MINUS: push(-pop()); break;
                    case ';': return pop();
                    case '?':
                        if (pop() == 0) {
                            at = endOfLine(at);
                        }
                        break;
                    default:
                        if (step >= 0) {
                            push(step);
                        } else {
                            int second = pop();
                            push(joined(-step, pop(), second));
                        }
                }
            }
            return 0;
        }

        private int endOfLine(int start) {
            int at = start;
            while (at < size && steps[at] != -';') {
                at++;
            }
            return at;
        }

        private static int joined(int sign, int a, int b) {
            switch (sign) {
                case '+': return a + b;
                case '-': return a - b;
                case '*': return a * b;
                case '/': return b == 0 ? 0 : a / b;
                case '%': return b == 0 ? 0 : a % b;
                case '<': return a < b ? 1 : 0;
                case '=': return a == b ? 1 : 0;
                case '>': return a > b ? 1 : 0;
                case '&': return a != 0 && b != 0 ? 1 : 0;
                default: return a != 0 || b != 0 ? 1 : 0;
            }
        }

        private void push(int value) {
            if (top < stack.length) {
                stack[top] = value;
                top++;
            }
        }

        private int pop() {
            if (top <= 0) {
                return 0;
            }
            top--;
            return stack[top];
        }
    }

    /** What would be: moods of its own, beginning as they are now, and hours and ways by them. */
    private static final class Thought {
        private static final int MOST_NIGHTS = 99;
        private static final int MOODS = 2 * MOST_MOOD + 1;
        private static final int SLOTS = 16;

        private final Net net;
        private final Law text;
        final int[] moods = new int[ROADS];
        /** What has been worked out in this thought, as a search comes to the same moods again and again. */
        private final int[] known = new int[ROADS * SLOTS];
        private final int[] knownFor = new int[ROADS * SLOTS];
        private int thoughts;
        private final int[] neighbours = new int[ROADS];
        private final int[] hours = new int[ROADS];
        final int[] distance = new int[PLACES];
        private int without;

        Thought(Net net, Law text) {
            this.net = net;
            this.text = text;
        }

        /** The road is thought to be ploughed up, too (NONE: no more than are). */
        void begin(int ploughedToo) {
            without = ploughedToo;
            thoughts++;
            moodsAsNow();
            Arrays.fill(neighbours, NONE);
        }

        void moodsAsNow() {
            System.arraycopy(net.moods, 0, moods, 0, ROADS);
        }

        private boolean isOpen(int road) {
            return net.ploughed[road] == 0 && road != without;
        }

        int takes(int road) {
            int mood = moods[road];
            int of = net.jealous[road];
            int other = of == NONE ? 0 : moods[of];
            int slot = road * SLOTS + (mood & 3) * 4 + (other & 3);
            int key = (thoughts * MOODS + mood + MOST_MOOD) * MOODS + other + MOST_MOOD;
            if (knownFor[slot] != key) {
                knownFor[slot] = key;
                known[slot] = workOut(road, mood, other);
            }
            return known[slot];
        }

        private int workOut(int road, int mood, int other) {
            if (neighbours[road] == NONE) {
                neighbours[road] = countNeighbours(road);
            }
            int nights = Math.min(MOST_NIGHTS, net.led[NIGHTS]);
            int told = text.work(net.lengths[road], mood, other, nights, road, neighbours[road]);
            return Math.max(1, Math.min(LONGEST, told));
        }

        private int countNeighbours(int road) {
            int many = 0;
            for (int r = 0; r < net.roadCount; r++) {
                if (r != road && isOpen(r) && net.touch(road, r)) {
                    many++;
                }
            }
            return many;
        }

        int takesInAll() {
            int sum = 0;
            for (int r = 0; r < net.roadCount; r++) {
                sum += takes(r);
            }
            return sum;
        }

        /** Fewest hours to each place stand in distance then; FAR: there is no way. */
        void measureFrom(int start) {
            for (int r = 0; r < net.roadCount; r++) {
                hours[r] = takes(r);
            }
            Arrays.fill(distance, FAR);
            distance[start] = 0;
            boolean nearer = true;
            for (int i = 0; i < PLACES && nearer; i++) {
                nearer = comeNearer();
            }
        }

        private boolean comeNearer() {
            boolean nearer = false;
            for (int r = 0; r < net.roadCount; r++) {
                if (!isOpen(r)) {
                    continue;
                }
                int a = net.from[r];
                int b = net.to[r];
                if (distance[a] + hours[r] < distance[b]) {
                    distance[b] = distance[a] + hours[r];
                    nearer = true;
                } else if (distance[b] + hours[r] < distance[a]) {
                    distance[a] = distance[b] + hours[r];
                    nearer = true;
                }
            }
            return nearer;
        }

        int tellWay(int start, int end, int k) {
            // Measured from the end, so that each next road is seen to lead nearer to it.
            measureFrom(end);
            if (distance[start] >= FAR) {
                return NOT;
            }
            if (k == -1) {
                return distance[start];
            }
            int at = start;
            int many = 0;
            while (many < PLACES && at != end) {
                int road = nextRoad(at);
                if (road == NONE || many == k) {
                    return road;
                }
                at = net.otherEnd(road, at);
                many++;
            }
            return k == -2 ? many : NOT;
        }

        private int nextRoad(int at) {
            for (int r = 0; r < net.roadCount; r++) {
                int next = net.otherEnd(r, at);
                if (isOpen(r) && next != NONE && distance[next] + hours[r] == distance[at]) {
                    return r;
                }
            }
            return NONE;
        }

        int placesWithin(int t) {
            int bits = 0;
            for (int p = 0; p < PLACES; p++) {
                if (distance[p] <= t) {
                    bits |= 1 << p;
                }
            }
            return bits;
        }

        int farthest() {
            int place = NONE;
            int most = NONE;
            for (int p = 0; p < PLACES; p++) {
                if (distance[p] < FAR && distance[p] > most) {
                    place = p;
                    most = distance[p];
                }
            }
            return Math.max(0, place);
        }

        int firstNotSo(Shelf told) {
            for (int r = 0; r < told.size; r++) {
                if (r >= net.roadCount || takes(r) != told.elements[r]) {
                    return r;
                }
            }
            return NOT;
        }
    }

    /** Goes through deeds in thought; what it finds stands in its fields until the next search. */
    private static final class Search {
        private static final int MOST_THANKS = 3, MOST_TRIES = 2000;
        private static final int NO_DEED = 99, NO_FIT = -9;

        private final Net net;
        private final Thought thought;
        final int[] picks = new int[MOST_THANKS];
        private final int[] behindFirst = new int[ROADS];
        int value;
        int deed;

        Search(Net net, Thought thought) {
            this.net = net;
            this.thought = thought;
        }

        /** How many, which stand in picks then; NOT. */
        int fewestThanks(int start, int end, int t) {
            if (!net.joins(start, end, NONE)) {
                return NOT;
            }
            thought.begin(NONE);
            for (int many = 0; many <= MOST_THANKS; many++) {
                if (findThanks(many, start, end, t)) {
                    return many;
                }
            }
            return NOT;
        }

        private boolean findThanks(int many, int start, int end, int t) {
            Arrays.fill(picks, 0);
            for (int i = 0; i < MOST_TRIES; i++) {
                thought.moodsAsNow();
                for (int p = 0; p < many; p++) {
                    net.say(thought.moods, picks[p], THANKS);
                }
                thought.measureFrom(start);
                if (thought.distance[end] <= t) {
                    return true;
                }
                if (!nextPicks(many)) {
                    break;
                }
            }
            return false;
        }

        /** The next roads that rise by numbers, or stay. */
        private boolean nextPicks(int many) {
            for (int p = many - 1; p >= 0; p--) {
                int pick = picks[p] + 1;
                if (pick < net.roadCount) {
                    for (int q = p; q < many; q++) {
                        picks[q] = pick;
                    }
                    return true;
                }
            }
            return false;
        }

        void bestThanks() {
            value = FAR;
            deed = NONE;
            thought.begin(NONE);
            for (int r = 0; r < net.roadCount; r++) {
                thought.moodsAsNow();
                net.say(thought.moods, r, THANKS);
                int sum = thought.takesInAll();
                if (sum < value) {
                    value = sum;
                    deed = r;
                }
            }
        }

        /** Deeds by turns: 0 is none, then thanks and a slight of road 0, of road 1, and so on. */
        private void perform(int turn) {
            if (turn > 0) {
                net.say(thought.moods, (turn - 1) / 2, 1 + (turn - 1) % 2);
            }
        }

        private int turns() {
            return 1 + 2 * net.roadCount;
        }

        private static int numberOf(int turn) {
            return 3 * ((turn - 1) / 2) + 1 + (turn - 1) % 2;
        }

        void deedsThatFit(Shelf told) {
            value = 0;
            deed = NO_FIT;
            int most = turns();
            thought.begin(NONE);
            for (int turn = 0; turn < most; turn++) {
                thought.moodsAsNow();
                perform(turn);
                if (thought.firstNotSo(told) == NOT) {
                    if (value == 0) {
                        deed = turn == 0 ? NONE : numberOf(turn);
                    }
                    value++;
                }
            }
        }

        int pairsThatFit(Shelf told) {
            int many = 0;
            int most = turns();
            thought.begin(NONE);
            for (int first = 1; first < most; first++) {
                performFirst(first);
                for (int second = 1; second < most; second++) {
                    performSecond(second);
                    if (thought.firstNotSo(told) == NOT) {
                        many++;
                    }
                }
            }
            return many;
        }

        private void performFirst(int turn) {
            thought.moodsAsNow();
            perform(turn);
            System.arraycopy(thought.moods, 0, behindFirst, 0, ROADS);
        }

        private void performSecond(int turn) {
            System.arraycopy(behindFirst, 0, thought.moods, 0, ROADS);
            perform(turn);
        }

        void takeTurns(int start, int end, int n) {
            value = MOST_TIME;
            deed = NO_DEED;
            if (!net.joins(start, end, NONE)) {
                return;
            }
            int most = turns();
            thought.begin(NONE);
            for (int turn = 0; turn < most; turn++) {
                performFirst(turn);
                int hours = worstAnswer(start, end, n == 1 ? 1 : most);
                if (hours < value) {
                    value = hours;
                    deed = turn == 0 ? NO_DEED : numberOf(turn);
                }
            }
        }

        /** With one turn alone, which is none, nothing is answered. */
        private int worstAnswer(int start, int end, int most) {
            int worst = 0;
            // What is no better than a deed found before is not chosen, however bad it gets.
            for (int turn = 0; turn < most && worst < value; turn++) {
                performSecond(turn);
                thought.measureFrom(start);
                worst = Math.max(worst, thought.distance[end]);
            }
            return worst;
        }

        int draw(int seed, int years, int days, int manners, int road) {
            if (net.roadCount == 0) {
                return 0;
            }
            thought.begin(NONE);
            int z = seed;
            int sum = 0;
            for (int year = 0; year < years; year++) {
                // Each year is drawn from now; only the draws go on from one to the next.
                thought.moodsAsNow();
                for (int day = 0; day < days; day++) {
                    z = z * 1103515245 + 12345;
                    boolean thanks = (z >>> 16) % 12 < manners;
                    net.say(thought.moods, (z >>> 8) % net.roadCount, thanks ? THANKS : SLIGHT);
                }
                sum += road == NONE ? thought.takesInAll() : thought.moods[road];
            }
            return sum;
        }
    }

    /** The shortest round past told places; of like ones the first by numbers. */
    private static final class Rounds {
        private final Thought thought;
        private final int[] table = new int[PLACES * PLACES];
        private final int[] tried = new int[ROUND_MOST];
        final int[] order = new int[ROUND_MOST];
        private int start;
        int fewest;

        Rounds(Thought thought) {
            this.thought = thought;
        }

        /** fewest is FAR then, if it can't be. */
        void seek(int place, int set) {
            for (int p = 0; p < PLACES; p++) {
                if (p == place || (set >> p & 1) == 1) {
                    thought.measureFrom(p);
                    System.arraycopy(thought.distance, 0, table, p * PLACES, PLACES);
                }
            }
            start = place;
            fewest = FAR;
            goOn(place, set, 0, 0);
        }

        private void goOn(int at, int left, int hours, int depth) {
            if (left == 0) {
                finish(hours + table[at * PLACES + start]);
                return;
            }
            if (depth >= ROUND_MOST) {
                return;
            }
            for (int p = 0; p < PLACES; p++) {
                if ((left >> p & 1) == 1) {
                    tried[depth] = p;
                    goOn(p, left & ~(1 << p), hours + table[at * PLACES + p], depth + 1);
                }
            }
        }

        private void finish(int hours) {
            if (hours < fewest) {
                fewest = hours;
                System.arraycopy(tried, 0, order, 0, ROUND_MOST);
            }
        }
    }

    /** A trip in thought; its moods stay in the thought until the next one begins. */
    private static final class Walk {
        private static final int MOST = 20;

        private final Net net;
        private final Thought thought;
        int taken;
        int place;
        int stuck;

        Walk(Net net, Thought thought) {
            this.net = net;
            this.thought = thought;
        }

        void go(Shelf told, int start) {
            thought.begin(NONE);
            taken = 0;
            place = start;
            stuck = NOT;
            for (int i = 0; i < MOST && i < told.size; i++) {
                int step = (int) told.elements[i];
                int road = step / 3;
                if (step < 0 || !net.isRoad(road)) {
                    return;
                }
                int next = net.otherEnd(road, place);
                if (next == NONE || net.ploughed[road] != 0) {
                    stuck = i;
                    return;
                }
                taken += thought.takes(road);
                net.say(thought.moods, road, step % 3);
                place = next;
            }
        }
    }

    /** Changes by mend(), for undoing and doing again. */
    private static final class History {
        private static final int MOST = 40;

        private final Net net;
        private final int[] numbers = new int[MOST];
        private final int[] whats = new int[MOST];
        private final int[] before = new int[MOST];
        private final int[] behind = new int[MOST];
        /** Those ahead of done may be undone, those from there to made may be done again. */
        int done;
        int made;

        History(Net net) {
            this.net = net;
        }

        void remember(int number, int what, int was, int is) {
            if (done >= MOST) {
                forgetOldest();
            }
            numbers[done] = number;
            whats[done] = what;
            before[done] = was;
            behind[done] = is;
            done++;
            made = done;
        }

        private void forgetOldest() {
            System.arraycopy(numbers, 1, numbers, 0, MOST - 1);
            System.arraycopy(whats, 1, whats, 0, MOST - 1);
            System.arraycopy(before, 1, before, 0, MOST - 1);
            System.arraycopy(behind, 1, behind, 0, MOST - 1);
            done = MOST - 1;
        }

        void stepBack() {
            if (done > 0) {
                done--;
                net.column(whats[done])[numbers[done]] = before[done];
            }
        }

        void stepOn() {
            if (done < made) {
                net.column(whats[done])[numbers[done]] = behind[done];
                done++;
            }
        }
    }

    /** An image of what deeds change. */
    private static final class Image {
        private final Net net;
        boolean isThere;
        private int roadCount;
        private int travellerCount;
        private final int[] moods = new int[ROADS];
        private final int[] places = new int[TRAVELLERS];
        private final int[] led = new int[LED];

        Image(Net net) {
            this.net = net;
        }

        void take() {
            isThere = true;
            roadCount = net.roadCount;
            travellerCount = net.travellerCount;
            System.arraycopy(net.moods, 0, moods, 0, roadCount);
            System.arraycopy(net.places, 0, places, 0, travellerCount);
            System.arraycopy(net.led, 0, led, 0, LED);
        }

        /** Only as many as there were then: those that came since stay as they are. */
        void layBack() {
            System.arraycopy(moods, 0, net.moods, 0, roadCount);
            System.arraycopy(places, 0, net.places, 0, travellerCount);
            System.arraycopy(led, 0, net.led, 0, LED);
        }
    }

    /** Stones and their acts, each found in its own kind or the next one above that has it. */
    private static final class Stones {
        static final int KINDS = 8;
        private static final int ACTS = 4, MOST = 50, MOST_NOTES = 24, DEEPEST = 40;
        private static final int LEADS = 0, GIVES_THANKS = 1, SULKS = 2, TELLS = 3;
        private static final int[] ABOVE = {NONE, 0, 0, 2, 1, 3, 0, 4};
        /** The body that a kind itself has for each act; 0: none. */
        private static final int[] OWN = {
            1, 10, 11, 2,
            20, 0, 0, 0,
            0, 30, 0, 0,
            0, 41, 40, 0,
            0, 0, 50, 0,
            0, 0, 0, 60,
            70, 0, 0, 0,
            0, 80, 0, 81
        };

        int many;
        final int[] kinds = new int[MOST];
        final int[] notes = new int[MOST_NOTES];
        int ran;
        private int kind;
        private int number;

        int add(int told) {
            if (many >= MOST) {
                return FULL;
            }
            kinds[many] = told;
            many++;
            return many - 1;
        }

        boolean isThere(int stone) {
            return stone >= 0 && stone < many;
        }

        static boolean isUnder(int low, int high) {
            int at = low;
            for (int i = 0; i < KINDS && at != NONE; i++) {
                if (at == high) {
                    return true;
                }
                at = ABOVE[at];
            }
            return false;
        }

        int noted() {
            return Math.min(ran, MOST_NOTES);
        }

        int perform(int stone, int told, int x) {
            ran = 0;
            if (!isThere(stone) || told < 0 || told >= ACTS) {
                return 0;
            }
            number = stone;
            kind = kinds[stone];
            return run(kind, told, x, 0);
        }

        /** The highest kind has every act, so that one is always found. */
        private static int holderOf(int lowest, int told) {
            int at = lowest;
            for (int i = 0; i < KINDS && at > 0 && OWN[at * ACTS + told] == 0; i++) {
                at = ABOVE[at];
            }
            return Math.max(0, at);
        }

        private void note(int ranNow) {
            if (ran < MOST_NOTES) {
                notes[ran] = ranNow;
            }
            ran++;
        }

        private int run(int lowest, int told, int x, int depth) {
            if (depth > DEEPEST) {
                return 0;
            }
            int holder = holderOf(lowest, told);
            int up = ABOVE[holder];
            int deeper = depth + 1;
            note(OWN[holder * ACTS + told]);
            switch (OWN[holder * ACTS + told]) {
                case 1: return x + number;
                case 2: return run(kind, GIVES_THANKS, x, deeper) - run(kind, SULKS, 1, deeper);
                case 10: return run(kind, LEADS, x, deeper) * 2;
                case 11: return x ^ number;
                case 20: return run(up, LEADS, x, deeper) + 3;
                case 30: return -run(up, GIVES_THANKS, x, deeper);
                case 40: return run(up, SULKS, x, deeper) * 3;
                case 41: return run(up, GIVES_THANKS, x + 1, deeper);
                case 50: return run(up, SULKS, x, deeper) - run(kind, LEADS, 2, deeper);
                case 60: return run(up, TELLS, x, deeper) ^ 5;
                case 70: return run(up, LEADS, x, deeper) * 2;
                case 80: return run(up, GIVES_THANKS, x, deeper) + run(kind, SULKS, 2, deeper);
                case 81: return run(up, TELLS, x, deeper) - 1;
                default: return 0;
            }
        }
    }

    /** What a shelf holds: nothing, a stone, or a row whose elements are used again by the next one. */
    private static final class Shelf {
        static final int MOST = 60;
        private static final int NO_ROW = -1;

        int sort = NO_ROW;
        int size;
        /** NONE while there is a row, or nothing. */
        int stone = NONE;
        final long[] elements = new long[MOST];

        boolean isRow() {
            return sort != NO_ROW;
        }

        boolean isRowOf(int told) {
            return isRow() && sort == told;
        }

        boolean isEmpty() {
            return !isRow() && stone == NONE;
        }

        void holdStone(int told) {
            sort = NO_ROW;
            size = 0;
            stone = told;
        }

        void holdRow(int told, int n) {
            sort = told;
            size = n;
            stone = NONE;
            Arrays.fill(elements, 0L);
        }

        /** 0: it holds a row of that sort. */
        int refusalOf(int told) {
            if (isEmpty()) {
                return NOTHING_THERE;
            }
            return isRowOf(told) ? 0 : OTHER_KIND;
        }

        /** 0: it holds a row that has that place. */
        int refusalAt(int i) {
            if (isEmpty()) {
                return NOTHING_THERE;
            }
            if (!isRow()) {
                return OTHER_KIND;
            }
            return i >= 0 && i < size ? 0 : NO_SUCH_PLACE;
        }

        boolean hasSpan(int i, int n) {
            return i >= 0 && n >= 0 && i <= size - n;
        }

        long cut(long v) {
            switch (sort) {
                case BYTES: return (byte) v;
                case SHORTS: return (short) v;
                case INTS: return (int) v;
                case BOOLEANS: return v != 0 ? 1 : 0;
                default: return v;
            }
        }
    }
}
