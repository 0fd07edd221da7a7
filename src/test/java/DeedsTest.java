/** Promises 25 to 31: going in deed, nights, what is led, the image, undoing and doing again. */
final class DeedsTest {
    private static final int LEAST = Integer.MIN_VALUE, MOST = Integer.MAX_VALUE;
    private static final Due due = new Due("DeedsTest");

    public static void main(String[] args) {
        promise25Goes();
        promise26Night();
        promise27Led();
        promise28And29Image();
        promise29Since();
        promise30Undo();
        promise31Redo();
        promise30Forty();
        promise30Deeds();
        due.end();
    }

    private static void promise25Goes() {
        RoadsThanked x = Due.net(1, 10, 12, 20, 45, 5);
        x.mend(1, 2, 0);
        x.traveller(0);
        x.traveller(2);
        due.is("thanks", x.goes(0, 0, 1), 10);
        due.is("he is there", x.of(0, 4), 1);
        due.is("the other one stays", x.of(1, 4), 2);
        due.is("mood", x.of(0, 1), 1);
        due.is("the jealous one", x.of(1, 1), -1);
        due.is("nothing", x.goes(0, 1, 0), 21);
        due.is("he is there", x.of(0, 4), 2);
        due.is("no mood changes", x.of(1, 1), -1);
        due.is("a slight", x.goes(1, 1, 2), 21);
        due.is("mood", x.of(1, 1), -3);
        due.is("a slight angers nobody else", x.of(0, 1), 1);
        due.is("it does not end where he is", x.goes(0, 0, 0), -5);
        due.is("nor this one", x.goes(0, 2, 0), -5);
        x.mend(1, 3, 1);
        due.is("ploughed up", x.goes(0, 1, 1), -5);
        due.is("a refusal changes nothing", x.of(1, 1), -3);
        due.is("a refusal changes nothing", x.of(0, 4), 2);
        due.is("a refusal changes nothing", x.led(0), 3);
        x.mend(1, 3, 0);
        x.mend(1, 1, 9);
        due.is("thanks", x.goes(0, 1, 1), 11);
        due.is("held at 9", x.of(1, 1), 9);
        x.mend(1, 1, -8);
        due.is("a slight", x.goes(0, 1, 2), 28);
        due.is("held at -9", x.of(1, 1), -9);
        Due.law(x, "l+k+n");
        x.night();
        due.is("by the law", x.goes(0, 1, 0), 20 + 1 + 1);
        for (int who : new int[] {-1, 2, LEAST, MOST}) {
            due.is("traveller", x.goes(who, 0, 0), -1);
        }
        for (int road : new int[] {-1, 3, LEAST, MOST}) {
            due.is("road", x.goes(0, road, 0), -1);
        }
        for (int word : new int[] {-1, 3, LEAST, MOST}) {
            due.is("word", x.goes(0, 1, word), -1);
            due.is("BAD goes ahead of STATE", x.goes(0, 2, word), -1);
        }
    }

    private static void promise26Night() {
        RoadsThanked x = Due.net(1, 10, 12, 20, 23, 30);
        x.mend(0, 1, 2);
        x.mend(1, 1, -2);
        x.mend(1, 3, 1);
        int[] high = {1, 0, 0};
        for (int i = 0; i < 3; i++) {
            due.is("night", x.night(), i + 1);
            due.is("nearer to 0", x.of(0, 1), high[i]);
            due.is("nearer to 0", x.of(1, 1), -high[i]);
            due.is("0 stays", x.of(2, 1), 0);
        }
        for (int i = 4; i <= 130; i++) {
            due.is("night", x.night(), i);
        }
        due.is("led", x.led(4), 130);
    }

    private static void promise27Led() {
        RoadsThanked x = Due.net(1, 10);
        x.traveller(0);
        x.goes(0, 0, 1);
        x.goes(0, 0, 1);
        x.goes(0, 0, 2);
        x.goes(0, 0, 0);
        x.goes(0, 0, 0);
        x.goes(0, 0, 0);
        x.goes(0, 0, 0);
        x.goes(0, 0, 2);
        x.goes(0, 0, 1);
        x.night();
        due.is("gone", x.led(0), 9);
        due.is("hours", x.led(1), 10 + 9 + 8 + 10 + 10 + 10 + 10 + 10 + 12);
        due.is("thanks", x.led(2), 3);
        due.is("slights", x.led(3), 2);
        due.is("nights", x.led(4), 1);
        for (int what : new int[] {-1, 5, LEAST, MOST}) {
            due.is("what", x.led(what), -1);
        }
        x.hours(0);
        x.least(1, 5, -1);
        x.mend(0, 1, 3);
        x.mend(0, 1, 0);
        due.is("only deeds are led", x.led(2), 3);
    }

    private static void promise28And29Image() {
        RoadsThanked x = Due.net(1, 10, 12, 20);
        x.traveller(0);
        x.mend(1, 2, 0);
        due.is("there is none", x.back(), -5);
        due.is("image", x.image(), 0);
        x.goes(0, 0, 1);
        due.is("image", x.image(), 1);
        x.goes(0, 1, 2);
        x.goes(0, 1, 1);
        x.goes(0, 0, 2);
        x.night();
        x.mend(0, 0, 33);
        x.mend(0, 2, 1);
        x.mend(1, 3, 1);
        x.mend(0, 5, 2);
        due.is("back", x.back(), 1);
        due.is("mood", x.of(0, 1), 1);
        due.is("mood", x.of(1, 1), -1);
        due.is("place", x.of(0, 4), 1);
        int[] led = {1, 10, 1, 0, 0};
        for (int what = 0; what < 5; what++) {
            due.is("led(" + what + ")", x.led(what), led[what]);
        }
        due.is("lengths are not in it", x.of(0, 0), 33);
        due.is("jealousies are not in it", x.of(0, 2), 1);
        due.is("nor is what is ploughed up", x.of(1, 3), 1);
        due.is("nor are manners", x.of(0, 5), 2);
        due.is("changes stay as they are", x.count(3), 5);
        x.goes(0, 0, 1);
        due.is("gone", x.led(0), 2);
        due.is("back again", x.back(), 1);
        due.is("mood again", x.of(0, 1), 1);
        due.is("place again", x.of(0, 4), 1);
        x.night();
        due.is("a later image", x.image(), 1);
        x.goes(0, 0, 2);
        due.is("takes its place", x.back(), 1);
        due.is("mood", x.of(0, 1), 0);
        due.is("nights", x.led(4), 1);
    }

    private static void promise29Since() {
        RoadsThanked x = Due.net(1, 10);
        x.traveller(0);
        x.image();
        x.road(1, 20);
        x.traveller(1);
        x.mend(1, 1, 4);
        x.mend(0, 1, 5);
        x.goes(1, 1, 1);
        due.is("back", x.back(), 0);
        due.is("a road that came since", x.of(1, 1), 5);
        due.is("a traveller that came since", x.of(1, 4), 0);
        due.is("the others", x.of(0, 1), 0);
        due.is("count", x.count(0), 2);
        due.is("count", x.count(1), 2);
        due.is("changes stay", x.undo(), 1);
        due.is("undone to what it was", x.of(0, 1), 0);
        due.is("changes stay", x.undo(), 0);
        due.is("undone to what it was", x.of(1, 1), 0);
        due.is("done again", x.redo(), 1);
        due.is("done again", x.of(1, 1), 4);
        due.is("back", x.back(), 0);
        due.is("done again", x.redo(), 0);
        due.is("done again", x.of(0, 1), 5);
        RoadsThanked none = new RoadsThanked();
        none.image();
        none.road(1, 5);
        none.mend(0, 1, 3);
        due.is("an image of nothing", none.back(), 0);
        due.is("leaves all", none.of(0, 1), 3);
    }

    private static void promise30Undo() {
        RoadsThanked x = Due.net(1, 10, 12, 20);
        x.traveller(3);
        due.is("none", x.undo(), -5);
        int[][] told = {{0, 0, 11}, {0, 1, 2}, {0, 2, 1}, {1, 3, 1}, {0, 4, 5}, {0, 5, 7}};
        int[] was = {10, 0, -1, 0, 3, 6};
        for (int[] t : told) {
            x.mend(t[0], t[1], t[2]);
        }
        due.is("count", x.count(3), 6);
        for (int i = 5; i >= 0; i--) {
            due.is("before", x.of(told[i][0], told[i][1]), told[i][2]);
            due.is("undo", x.undo(), i);
            due.is("count", x.count(3), i);
            due.is("behind", x.of(told[i][0], told[i][1]), was[i]);
        }
        due.is("none", x.undo(), -5);
        x.mend(0, 0, 10);
        due.is("the same number is none", x.undo(), -5);
        x.mend(0, 0, 500);
        due.is("a refused one is none", x.undo(), -5);
        x.road(23, 5);
        x.traveller(1);
        due.is("roads and travellers are none", x.undo(), -5);
    }

    private static void promise31Redo() {
        RoadsThanked x = Due.net(1, 10);
        due.is("none", x.redo(), -5);
        x.mend(0, 0, 11);
        x.mend(0, 0, 12);
        x.mend(0, 1, 3);
        due.is("none", x.redo(), -5);
        x.undo();
        x.undo();
        due.is("length", x.of(0, 0), 11);
        due.is("redo", x.redo(), 1);
        due.is("length", x.of(0, 0), 12);
        due.is("mood", x.of(0, 1), 0);
        due.is("redo", x.redo(), 0);
        due.is("mood", x.of(0, 1), 3);
        due.is("none", x.redo(), -5);
        due.is("count", x.count(3), 3);
        x.undo();
        x.undo();
        x.mend(0, 0, 11);
        x.mend(0, 0, 0);
        due.is("no change, refused: still there", x.redo(), 1);
        x.undo();
        x.mend(0, 0, 50);
        due.is("another came behind", x.redo(), -5);
        due.is("count", x.count(3), 2);
        due.is("undo", x.undo(), 1);
        due.is("length", x.of(0, 0), 11);
        due.is("undo", x.undo(), 0);
        due.is("length", x.of(0, 0), 10);
        due.is("redo", x.redo(), 1);
        due.is("redo", x.redo(), 0);
        due.is("length", x.of(0, 0), 50);
    }

    private static void promise30Forty() {
        RoadsThanked x = Due.net(1, 10);
        for (int i = 1; i <= 45; i++) {
            x.mend(0, 0, 10 + i);
            due.is("count", x.count(3), Math.min(40, i));
        }
        for (int i = 39; i >= 0; i--) {
            due.is("undo", x.undo(), i);
            due.is("length", x.of(0, 0), 15 + i);
        }
        due.is("the oldest are forgotten", x.undo(), -5);
        for (int i = 39; i >= 0; i--) {
            due.is("redo", x.redo(), i);
        }
        due.is("length", x.of(0, 0), 55);
        due.is("none", x.redo(), -5);
        x.undo();
        x.mend(0, 1, 1);
        due.is("count", x.count(3), 40);
        x.mend(0, 1, 2);
        due.is("count", x.count(3), 40);
        fortyOfAllSorts();
    }

    /** Changes of many numbers, more than are kept: each one is undone and done again as it was. */
    private static void fortyOfAllSorts() {
        RoadsThanked x = Due.net(1, 10, 12, 20, 23, 30);
        int[][] told = new int[47][];
        int[] was = new int[47];
        for (int i = 0; i < 47; i++) {
            told[i] = new int[] {i % 3, i / 3 % 2, 1 + i / 6};
            was[i] = x.mend(told[i][0], told[i][1], told[i][2]);
        }
        for (int i = 46; i >= 7; i--) {
            due.is("undo", x.undo(), i - 7);
            due.is("undone, change " + i, x.of(told[i][0], told[i][1]), was[i]);
        }
        due.is("no more", x.undo(), -5);
        for (int i = 7; i < 47; i++) {
            due.is("redo", x.redo(), 46 - i);
            due.is("done again, change " + i, x.of(told[i][0], told[i][1]), told[i][2]);
        }
        due.is("no more", x.redo(), -5);
    }

    private static void promise30Deeds() {
        RoadsThanked x = Due.net(1, 10);
        x.traveller(0);
        x.mend(0, 1, 4);
        x.mend(0, 4, 1);
        x.goes(0, 0, 1);
        x.night();
        x.night();
        due.is("deeds are none", x.count(3), 2);
        due.is("place", x.of(0, 4), 0);
        due.is("undo", x.undo(), 1);
        due.is("the place that it was", x.of(0, 4), 0);
        due.is("mood by deeds", x.of(0, 1), 3);
        due.is("undo", x.undo(), 0);
        due.is("the mood that it was", x.of(0, 1), 0);
        x.goes(0, 0, 1);
        due.is("deeds do not come behind as changes", x.redo(), 1);
        due.is("mood", x.of(0, 1), 4);
        x.night();
        x.undo();
        due.is("what it was ahead of the change", x.of(0, 1), 0);
    }
}
