/** Sentence by sentence, the edges of promises 25 to 31: going in deed, nights, what is led, the image, undoing, doing again. */
final class DeedEdgesTest {
    private static final int BAD = Due.BAD, STATE = Due.STATE, VOID = Due.VOID;
    private static final int LEAST = Due.LEAST, MOST = Due.MOST;
    private static final Due due = new Due("DeedEdgesTest");

    public static void main(String[] args) {
        goesBad();
        goesNotWhereHeIs();
        goesPloughedUp();
        goesHoursItTook();
        goesThere();
        goesWords();
        nights();
        nightOfNone();
        ledBad();
        ledAtFirst();
        ledRoadsAndHours();
        ledThanksAndSlights();
        ledNights();
        ledDeedsAlone();
        imageAnswers();
        backNone();
        backMoods();
        backPlaces();
        backLed();
        backNothingElse();
        backRoadsSince();
        backTravellersSince();
        backChangesStay();
        imageLater();
        imageStays();
        undoNone();
        undoLatestFirst();
        undoAllNumbers();
        sameNumberIsNone();
        refusedIsNone();
        otherCallsAreNone();
        deedsAreNone();
        redoNone();
        redoFirstUndoneLast();
        redoOtherCameBehind();
        redoStaysOtherwise();
        fortyKept();
        fortyAgain();
        undoBehindDeeds();
        due.end();
    }

    private static RoadsThanked three() {
        RoadsThanked x = Due.net(1, 10, 12, 20, 34, 30);
        x.traveller(0);
        x.traveller(2);
        return x;
    }

    private static void goesBad() {
        due.sentence("goes(): BAD");
        RoadsThanked x = three();
        due.each("goes(#, 0, 0)", t -> x.goes(t, 0, 0), BAD, LEAST, -2, -1, 2, 3, 4, MOST);
        due.each("goes(0, #, 0)", r -> x.goes(0, r, 0), BAD, LEAST, -2, -1, 3, 11, 12, MOST);
        due.each("goes(0, 0, #)", w -> x.goes(0, 0, w), BAD, LEAST, -2, -1, 3, 4, MOST);
        due.each("goes(0, 1, #), ahead of STATE", w -> x.goes(0, 1, w), BAD, -1, 3);
        x.mend(0, 3, 1);
        due.each("goes(0, 0, #), ahead of STATE", w -> x.goes(0, 0, w), BAD, -1, 3);
        due.is("none of it was gone", x.led(0), 0);
        RoadsThanked full = Due.fullNet();
        for (int i = 0; i < 4; i++) {
            full.traveller(1);
        }
        due.is("goes(3, 11, 2)", full.goes(3, 11, 2), 21);
        due.is("goes(4, 11, 2)", full.goes(4, 11, 2), BAD);
        due.is("goes(3, 12, 2)", full.goes(3, 12, 2), BAD);
    }

    private static void goesNotWhereHeIs() {
        due.sentence("STATE: it does not end where he is");
        RoadsThanked x = three();
        due.each("goes(0, #, 1)", r -> x.goes(0, r, 1), STATE, 1, 2);
        due.each("goes(1, #, 1)", r -> x.goes(1, r, 1), STATE, 0, 2);
        due.is("he stays", x.of(0, 4), 0);
        due.is("no thanks", x.of(1, 1), 0);
        due.is("goes(0, 0, 1)", x.goes(0, 0, 1), 10);
        due.is("goes(0, 1, 1)", x.goes(0, 1, 1), 20);
        due.is("goes(0, 0, 1), then", x.goes(0, 0, 1), STATE);
    }

    private static void goesPloughedUp() {
        due.sentence("STATE: or is PLOUGHED up");
        RoadsThanked x = three();
        x.mend(0, 3, 1);
        due.each("goes(0, 0, #)", w -> x.goes(0, 0, w), STATE, 0, 1, 2);
        due.is("he stays", x.of(0, 4), 0);
        due.is("no mood", x.of(0, 1), 0);
        x.mend(0, 3, 0);
        due.is("goes(0, 0, 0)", x.goes(0, 0, 0), 10);
    }

    private static void goesHoursItTook() {
        due.sentence("HOURS it took");
        RoadsThanked x = Due.net(1, 10, 12, 20);
        x.traveller(0);
        due.is("by the mood ahead of the thanks", x.goes(0, 0, 1), 10);
        due.is("by the mood ahead of the slight", x.goes(0, 0, 2), 9);
        due.is("behind the slight", x.goes(0, 0, 0), 11);
        due.is("law", Due.law(x, "l+n+k+100*r"), 1);
        x.night();
        due.is("by the law", x.goes(0, 0, 0), 12);
        due.is("back", x.goes(0, 0, 0), 12);
        x.mend(1, 3, 1);
        due.is("by the law", x.goes(0, 0, 0), 11);
        x.mend(1, 3, 0);
        due.is("by the law", x.goes(0, 0, 0), 12);
        due.is("held", x.goes(0, 1, 0), 99);
    }

    private static void goesThere() {
        due.sentence("a TRAVELLER GOES a ROAD that ends where he is");
        RoadsThanked x = Due.line();
        x.traveller(0);
        x.traveller(7);
        for (int r = 0; r < 7; r++) {
            due.is("goes(0, " + r + ", 0)", x.goes(0, r, 0), 10 + r);
            due.is("he is there", x.of(0, 4), r + 1);
            due.is("goes(1, " + (6 - r) + ", 0)", x.goes(1, 6 - r, 0), 16 - r);
            due.is("he is there", x.of(1, 4), 6 - r);
        }
    }

    private static void goesWords() {
        due.sentence("(word 0 NOTHING, 1 THANKS, 2 a SLIGHT)");
        int[] moods = {0, 1, -2};
        int[] others = {0, -1, 0};
        for (int word = 0; word <= 2; word++) {
            RoadsThanked x = three();
            x.mend(2, 2, 0);
            x.goes(0, 0, word);
            due.is("mood behind word " + word, x.of(0, 1), moods[word]);
            due.is("of one that is jealous", x.of(2, 1), others[word]);
            due.is("of another one", x.of(1, 1), 0);
            due.is("thanks led", x.led(2), word == 1 ? 1 : 0);
            due.is("slights led", x.led(3), word == 2 ? 1 : 0);
        }
    }

    private static void nights() {
        due.sentence("A NIGHT: nights");
        RoadsThanked x = three();
        for (int i = 1; i <= 150; i++) {
            due.is("night()", x.night(), i);
        }
        due.is("led(4)", x.led(4), 150);
    }

    private static void nightOfNone() {
        due.sentence("a NIGHT: no ROADS, 12 ROADS");
        RoadsThanked none = new RoadsThanked();
        due.is("night()", none.night(), 1);
        none.road(1, 5);
        due.is("mood", none.of(0, 1), 0);
        RoadsThanked full = Due.fullNet();
        full.mend(0, 1, 9);
        full.mend(11, 1, -9);
        full.night();
        due.is("the first", full.of(0, 1), 8);
        due.is("the last", full.of(11, 1), -8);
        due.is("one at 0", full.of(5, 1), 0);
    }

    private static void ledBad() {
        due.sentence("led(): BAD");
        RoadsThanked x = three();
        due.each("led(#)", w -> x.led(w), BAD, LEAST, -2, -1, 5, 6, MOST);
    }

    private static void ledAtFirst() {
        due.sentence("LED: none at first");
        RoadsThanked x = three();
        due.each("led(#)", w -> x.led(w), 0, 0, 1, 2, 3, 4);
    }

    private static void ledRoadsAndHours() {
        due.sentence("LED: ROADS gone, HOURS");
        RoadsThanked x = three();
        x.goes(0, 0, 0);
        x.goes(1, 1, 1);
        x.goes(1, 1, 2);
        x.goes(1, 0, 0);
        due.is("led(0)", x.led(0), 3);
        due.is("led(1)", x.led(1), 10 + 20 + 19);
        RoadsThanked far = Due.net(1, 99);
        far.traveller(0);
        for (int i = 0; i < 200; i++) {
            far.goes(0, 0, 0);
        }
        due.is("led(0)", far.led(0), 200);
        due.is("led(1)", far.led(1), 19800);
    }

    private static void ledThanksAndSlights() {
        due.sentence("LED: THANKS, SLIGHTS");
        RoadsThanked x = Due.net(1, 50);
        x.traveller(0);
        for (int i = 0; i < 12; i++) {
            x.goes(0, 0, 1);
        }
        for (int i = 0; i < 15; i++) {
            x.goes(0, 0, 2);
        }
        x.goes(0, 0, 0);
        due.is("held or not: led(2)", x.led(2), 12);
        due.is("held or not: led(3)", x.led(3), 15);
        due.is("led(0)", x.led(0), 28);
        x.mend(0, 1, 5);
        x.mend(0, 1, -5);
        due.is("mended moods are none", x.led(2) + x.led(3), 27);
    }

    private static void ledNights() {
        due.sentence("LED: nights");
        RoadsThanked x = three();
        x.night();
        x.night();
        x.night();
        due.is("led(4)", x.led(4), 3);
        due.each("led(#)", w -> x.led(w), 0, 0, 1, 2, 3);
    }

    private static void ledDeedsAlone() {
        due.sentence("IN DEED: thoughts are not LED");
        RoadsThanked x = three();
        Due.row(x, 0, 0, 1, 4, 5);
        Due.row(x, 1, 1, 9, 20);
        x.trip(0, 0, 0);
        x.way(2, -1);
        x.least(2, 28, -1);
        x.best(0);
        x.sunday(1, 2);
        x.byTurns(2, 2, 0);
        x.drawn(3, 304006, -1);
        x.goes(0, 1, 1);
        due.each("led(#)", w -> x.led(w), 0, 0, 1, 2, 3, 4);
        due.is("mood", x.of(0, 1), 0);
    }

    private static void imageAnswers() {
        due.sentence("AN IMAGE is kept: ROADS gone");
        RoadsThanked x = three();
        due.is("image()", x.image(), 0);
        x.goes(0, 0, 1);
        x.goes(0, 1, 1);
        due.is("image()", x.image(), 2);
        x.goes(0, 1, 0);
        due.is("back()", x.back(), 2);
        due.is("image()", x.image(), 2);
    }

    private static void backNone() {
        due.sentence("back(): STATE: there is none");
        RoadsThanked x = three();
        due.is("back()", x.back(), STATE);
        x.goes(0, 0, 1);
        due.is("back()", x.back(), STATE);
        due.is("it stays", x.of(0, 4), 1);
        x.image();
        due.is("back()", x.back(), 1);
    }

    private static void backMoods() {
        due.sentence("AN IMAGE keeps MOODS");
        RoadsThanked x = Due.fullNet();
        for (int r = 0; r < 12; r++) {
            x.mend(r, 1, r - 6);
        }
        x.image();
        for (int r = 0; r < 12; r++) {
            x.mend(r, 1, 9);
        }
        x.night();
        x.back();
        for (int r = 0; r < 12; r++) {
            due.is("mood of " + r, x.of(r, 1), r - 6);
        }
    }

    private static void backPlaces() {
        due.sentence("AN IMAGE keeps PLACES of TRAVELLERS");
        RoadsThanked x = Due.line();
        for (int i = 0; i < 4; i++) {
            x.traveller(i);
        }
        x.image();
        for (int i = 0; i < 4; i++) {
            x.goes(i, i, 0);
            due.is("gone", x.of(i, 4), i + 1);
        }
        x.mend(3, 4, 7);
        x.back();
        for (int i = 0; i < 4; i++) {
            due.is("place of " + i, x.of(i, 4), i);
        }
    }

    private static void backLed() {
        due.sentence("AN IMAGE keeps what LED tells");
        RoadsThanked x = Due.net(1, 50);
        x.traveller(0);
        x.goes(0, 0, 1);
        x.goes(0, 0, 1);
        x.goes(0, 0, 2);
        x.goes(0, 0, 0);
        x.night();
        x.night();
        int[] want = new int[5];
        for (int what = 0; what < 5; what++) {
            want[what] = x.led(what);
        }
        x.image();
        x.goes(0, 0, 1);
        x.goes(0, 0, 2);
        x.night();
        x.back();
        for (int what = 0; what < 5; what++) {
            due.is("led(" + what + ")", x.led(what), want[what]);
        }
        due.is("law", Due.law(x, "n+10"), 1);
        due.is("nights of the law, too", x.hours(0), 12);
        due.is("they go on from there", x.night(), 3);
    }

    private static void backNothingElse() {
        due.sentence("AN IMAGE keeps MOODS, PLACES of TRAVELLERS, what LED tells: nothing else");
        RoadsThanked x = three();
        x.image();
        x.mend(0, 0, 77);
        x.mend(0, 2, 1);
        x.mend(0, 3, 1);
        x.mend(0, 5, 3);
        Due.law(x, "5");
        x.feed('l');
        x.body(3);
        x.act(0, 0, 1);
        Due.row(x, 2, 3, 8);
        due.is("back()", x.back(), 0);
        due.is("length", x.of(0, 0), 77);
        due.is("jealous", x.of(0, 2), 1);
        due.is("ploughed", x.of(0, 3), 1);
        due.is("manners", x.of(0, 5), 3);
        due.is("law", x.hours(0), 5);
        due.is("tape", x.count(2), 1);
        due.is("bodies", x.count(4), 1);
        due.is("trace", x.count(5), 1);
        due.is("shelf", x.element(2, 0), 8);
    }

    private static void backRoadsSince() {
        due.sentence("(ROADS that came since as they are)");
        RoadsThanked x = Due.net(1, 10);
        x.mend(0, 1, 2);
        x.image();
        x.road(1, 20);
        x.mend(0, 1, 5);
        x.mend(1, 1, -7);
        due.is("back()", x.back(), 0);
        due.is("mood of 0", x.of(0, 1), 2);
        due.is("mood of 1, which came since", x.of(1, 1), -7);
        due.is("count(0)", x.count(0), 2);
        RoadsThanked none = new RoadsThanked();
        none.image();
        for (int r = 0; r < 12; r++) {
            none.road(1, 5);
            none.mend(r, 1, 4);
        }
        none.back();
        for (int r = 0; r < 12; r++) {
            due.is("mood of " + r, none.of(r, 1), 4);
        }
    }

    private static void backTravellersSince() {
        due.sentence("(TRAVELLERS that came since as they are)");
        RoadsThanked x = Due.net(1, 10);
        x.traveller(0);
        x.image();
        x.traveller(0);
        x.goes(0, 0, 0);
        x.goes(1, 0, 0);
        due.is("back()", x.back(), 0);
        due.is("place of 0", x.of(0, 4), 0);
        due.is("place of 1, who came since", x.of(1, 4), 1);
        due.is("count(1)", x.count(1), 2);
        RoadsThanked none = new RoadsThanked();
        none.image();
        for (int i = 0; i < 4; i++) {
            none.traveller(i + 2);
        }
        none.back();
        for (int i = 0; i < 4; i++) {
            due.is("place of " + i, none.of(i, 4), i + 2);
        }
    }

    private static void backChangesStay() {
        due.sentence("(laid back, CHANGES stay as they are)");
        RoadsThanked x = three();
        x.mend(0, 0, 11);
        x.image();
        x.mend(0, 1, 5);
        x.mend(0, 4, 7);
        x.mend(0, 0, 12);
        x.undo();
        x.back();
        due.is("count(3)", x.count(3), 3);
        due.is("mood", x.of(0, 1), 0);
        due.is("redo()", x.redo(), 0);
        due.is("length", x.of(0, 0), 12);
        due.is("undo()", x.undo(), 3);
        due.is("undo()", x.undo(), 2);
        due.is("place that it was", x.of(0, 4), 0);
        due.is("undo()", x.undo(), 1);
        due.is("mood that it was", x.of(0, 1), 0);
        due.is("redo()", x.redo(), 2);
        due.is("mood that it became", x.of(0, 1), 5);
        due.is("undo(), back to the image", x.undo(), 1);
        due.is("undo(), ahead of the image", x.undo(), 0);
        due.is("length", x.of(0, 0), 10);
        due.is("image() is no change", x.image(), 0);
        due.is("redo()", x.redo(), 3);
    }

    private static void imageLater() {
        due.sentence("AN IMAGE is kept: the latest");
        RoadsThanked x = Due.net(1, 10);
        x.traveller(0);
        x.image();
        x.goes(0, 0, 1);
        x.image();
        x.goes(0, 0, 1);
        due.is("back()", x.back(), 1);
        due.is("mood", x.of(0, 1), 1);
        due.is("place", x.of(0, 4), 1);
    }

    private static void imageStays() {
        due.sentence("AN IMAGE is kept: laid back once more");
        RoadsThanked x = Due.net(1, 10);
        x.traveller(0);
        x.goes(0, 0, 1);
        x.image();
        for (int i = 0; i < 3; i++) {
            x.goes(0, 0, 2);
            x.night();
            due.is("back()", x.back(), 1);
            due.is("mood", x.of(0, 1), 1);
            due.is("place", x.of(0, 4), 1);
            due.is("led(4)", x.led(4), 0);
        }
    }

    private static void undoNone() {
        due.sentence("undo(): STATE: none");
        RoadsThanked x = three();
        due.is("undo()", x.undo(), STATE);
        x.mend(0, 0, 11);
        due.is("undo()", x.undo(), 0);
        due.is("undo()", x.undo(), STATE);
        due.is("length", x.of(0, 0), 10);
        due.is("count(3)", x.count(3), 0);
        due.is("redo() is still there", x.redo(), 0);
        due.is("length", x.of(0, 0), 11);
    }

    private static void undoLatestFirst() {
        due.sentence("CHANGES can be UNDONE, the latest first: how many may still be");
        RoadsThanked x = three();
        for (int i = 1; i <= 5; i++) {
            x.mend(0, 0, 10 + i);
            due.is("count(3)", x.count(3), i);
        }
        for (int i = 4; i >= 0; i--) {
            due.is("undo()", x.undo(), i);
            due.is("length", x.of(0, 0), 10 + i);
            due.is("count(3)", x.count(3), i);
        }
    }

    private static void undoAllNumbers() {
        due.sentence("CHANGES (all numbers of mend())");
        int[] was = {20, 0, -1, 0, 2, 6};
        int[] is = {21, -9, 0, 1, 7, 0};
        for (int what = 0; what <= 5; what++) {
            RoadsThanked x = three();
            x.mend(1, what, is[what]);
            due.is("count(3)", x.count(3), 1);
            due.is("undo(), what " + what, x.undo(), 0);
            due.is("of(1, " + what + ")", x.of(1, what), was[what]);
            due.is("redo(), what " + what, x.redo(), 0);
            due.is("of(1, " + what + ")", x.of(1, what), is[what]);
        }
    }

    private static void sameNumberIsNone() {
        due.sentence("(telling the same number is none)");
        RoadsThanked x = three();
        int[] same = {10, 0, -1, 0, 0, 6};
        for (int what = 0; what <= 5; what++) {
            due.is("mend(0, " + what + ", the same)", x.mend(0, what, same[what]), same[what]);
            due.is("count(3)", x.count(3), 0);
        }
        due.is("undo()", x.undo(), STATE);
        x.goes(0, 0, 1);
        due.is("the same as deeds made it", x.mend(0, 1, 1), 1);
        due.is("count(3)", x.count(3), 0);
        due.is("what it was ahead of the deeds", x.mend(0, 1, 0), 1);
        due.is("count(3)", x.count(3), 1);
    }

    private static void refusedIsNone() {
        due.sentence("CHANGES: what is answered VOID is none");
        RoadsThanked x = three();
        due.is("mend(0, 0, 100)", x.mend(0, 0, 100), VOID);
        due.is("mend(9, 0, 50)", x.mend(9, 0, 50), VOID);
        due.is("mend(0, 6, 1)", x.mend(0, 6, 1), VOID);
        due.is("count(3)", x.count(3), 0);
        due.is("undo()", x.undo(), STATE);
    }

    private static void otherCallsAreNone() {
        due.sentence("CHANGES: all numbers of mend(), no other calls");
        RoadsThanked x = three();
        x.road(56, 7);
        x.traveller(4);
        Due.row(x, 0, 0, 1, 2, 3);
        x.roads(0, 0, 1);
        Due.law(x, "l");
        x.image();
        x.back();
        x.body(1);
        x.keep(1, 0);
        due.is("count(3)", x.count(3), 0);
        due.is("undo()", x.undo(), STATE);
    }

    private static void deedsAreNone() {
        due.sentence("deeds are none (MOODS, PLACES by them, too)");
        RoadsThanked x = three();
        x.goes(0, 0, 1);
        x.goes(0, 1, 2);
        x.goes(0, 1, 0);
        x.night();
        due.is("count(3)", x.count(3), 0);
        due.is("undo()", x.undo(), STATE);
        due.is("place", x.of(0, 4), 1);
        due.is("mood", x.of(1, 1), -1);
    }

    private static void redoNone() {
        due.sentence("redo(): STATE: none");
        RoadsThanked x = three();
        due.is("redo()", x.redo(), STATE);
        x.mend(0, 0, 11);
        due.is("redo()", x.redo(), STATE);
        x.undo();
        due.is("redo()", x.redo(), 0);
        due.is("redo()", x.redo(), STATE);
        due.is("length", x.of(0, 0), 11);
        due.is("count(3)", x.count(3), 1);
    }

    private static void redoFirstUndoneLast() {
        due.sentence("DONE AGAIN: how many may still be");
        RoadsThanked x = three();
        for (int i = 1; i <= 5; i++) {
            x.mend(0, 0, 10 + i);
        }
        for (int i = 0; i < 5; i++) {
            x.undo();
        }
        for (int i = 1; i <= 5; i++) {
            due.is("redo()", x.redo(), 5 - i);
            due.is("length", x.of(0, 0), 10 + i);
            due.is("count(3)", x.count(3), i);
        }
        due.is("undo()", x.undo(), 4);
        due.is("redo()", x.redo(), 0);
    }

    private static void redoOtherCameBehind() {
        due.sentence("(as long as no other came behind)");
        RoadsThanked x = three();
        x.mend(0, 0, 11);
        x.mend(0, 0, 12);
        x.mend(0, 0, 13);
        x.undo();
        x.undo();
        x.mend(1, 1, 4);
        due.is("redo()", x.redo(), STATE);
        due.is("count(3)", x.count(3), 2);
        due.is("length", x.of(0, 0), 11);
        due.is("undo()", x.undo(), 1);
        due.is("mood", x.of(1, 1), 0);
        due.is("redo()", x.redo(), 0);
        due.is("mood", x.of(1, 1), 4);
        due.is("redo()", x.redo(), STATE);
        due.is("length", x.of(0, 0), 11);
        x.undo();
        x.mend(1, 1, 4);
        due.is("one like that which was undone, too", x.redo(), STATE);
    }

    private static void redoStaysOtherwise() {
        due.sentence("(as long as no other came behind): what is no change does not");
        RoadsThanked x = three();
        x.mend(0, 0, 11);
        x.mend(0, 1, 3);
        x.undo();
        x.undo();
        x.mend(0, 0, 10);
        x.mend(0, 0, 0);
        x.mend(7, 0, 5);
        x.goes(0, 0, 1);
        x.night();
        x.road(56, 7);
        x.traveller(4);
        x.image();
        x.back();
        Due.law(x, "l");
        due.is("redo()", x.redo(), 1);
        due.is("redo()", x.redo(), 0);
        due.is("length", x.of(0, 0), 11);
        due.is("mood", x.of(0, 1), 3);
    }

    private static void fortyKept() {
        due.sentence("40 at most are kept");
        for (int many = 39; many <= 43; many++) {
            RoadsThanked x = three();
            for (int i = 1; i <= many; i++) {
                x.mend(0, 0, 10 + i);
            }
            int kept = Math.min(40, many);
            due.is("count(3) of " + many, x.count(3), kept);
            for (int i = kept - 1; i >= 0; i--) {
                due.is("undo() of " + many, x.undo(), i);
            }
            due.is("undo() of " + many, x.undo(), STATE);
            due.is("the oldest is forgotten, of " + many, x.of(0, 0), 10 + many - kept);
            for (int i = kept - 1; i >= 0; i--) {
                due.is("redo() of " + many, x.redo(), i);
            }
            due.is("redo() of " + many, x.redo(), STATE);
            due.is("length of " + many, x.of(0, 0), 10 + many);
        }
    }

    private static void fortyAgain() {
        due.sentence("40 at most are kept: undone ones, and others behind them");
        RoadsThanked x = three();
        for (int i = 1; i <= 40; i++) {
            x.mend(0, 0, 10 + i);
        }
        for (int i = 0; i < 10; i++) {
            x.undo();
        }
        due.is("count(3)", x.count(3), 30);
        for (int i = 1; i <= 12; i++) {
            x.mend(1, 0, 30 + i);
            due.is("count(3)", x.count(3), Math.min(40, 30 + i));
        }
        due.is("redo()", x.redo(), STATE);
        for (int i = 11; i >= 0; i--) {
            x.undo();
            due.is("of the other road", x.of(1, 0), i == 0 ? 20 : 30 + i);
        }
        due.is("count(3)", x.count(3), 28);
        for (int i = 0; i < 28; i++) {
            x.undo();
        }
        due.is("undo()", x.undo(), STATE);
        due.is("two are forgotten", x.of(0, 0), 12);
    }

    private static void undoBehindDeeds() {
        due.sentence("UNDONE: it becomes what it was ahead of the change, whatever deeds came since");
        RoadsThanked x = three();
        x.mend(0, 1, 4);
        x.goes(0, 0, 1);
        due.is("mood by deeds", x.of(0, 1), 5);
        x.undo();
        due.is("mood that it was", x.of(0, 1), 0);
        x.goes(0, 0, 2);
        x.redo();
        due.is("mood that it became", x.of(0, 1), 4);
        x.mend(0, 4, 2);
        x.goes(0, 1, 0);
        x.undo();
        due.is("place that it was", x.of(0, 4), 0);
        x.mend(0, 4, 1);
        x.goes(0, 1, 0);
        x.undo();
        x.redo();
        due.is("place that it became", x.of(0, 4), 1);
    }
}
