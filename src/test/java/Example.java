/** The example of README.md: each line prints the number that stands first in its comment. */
public final class Example {
    public static void main(String[] args) {
        RoadsThanked net = new RoadsThanked();

        // Roads, and who is jealous.
        show(net.road(1, 10));              // 0: a road from place 0 to place 1, of length 10
        show(net.road(12, 20));             // 1: one from place 1 to place 2
        show(net.road(2, 40));              // 2: one from place 0 to place 2
        show(net.mend(1, 2, 0));            // -1: road 1 was jealous of none; from now on it is of road 0
        show(net.of(1, 2));                 // 0: it is, as asked
        show(net.road(11, 5));              // -1: BAD, a road leads to another place
        show(net.mend(1, 2, 1));            // -2000000000: VOID, no road is jealous of itself

        // In thought: nothing changes, whatever is asked.
        show(net.hours(-1));                // 70: hours of all roads together
        show(net.way(2, -1));               // 30: hours of the shortest way from place 0 to place 2
        show(net.way(2, -2));               // 2: so many roads has it
        show(net.way(2, 1));                // 1: the second of them is road 1
        show(net.way(2, 2));                // -2: NOT, there is no third one
        show(net.reach(0, 10, 0));          // 3: bits of places 0 and 1, which one comes to in 10 hours
        show(net.needed(2));                // 0: without any one of the roads there is still a way
        show(net.longer(2, 1));             // 10: the way from 0 to 2 takes 40 hours if road 1 is ploughed up
        show(net.round(0, 6, -1));          // 60: from place 0 past places 1 and 2 and back
        show(net.round(0, 126, -1));        // -5: STATE, six places are too many
        show(net.least(2, 28, -1));         // 2: it takes two thanks until that way takes 28 hours
        show(net.least(2, 28, 0));          // 1: the first of them to road 1
        show(net.byTurns(2, 2, 0));         // 31: hours of that way, if one shortens it, and another one lengthens it
        show(net.byTurns(2, 2, 1));         // 4: the first one's deed: 3 times road 1, and 1, which is thanks
        show(net.anger(0));                 // 2: bits of road 1, which is jealous of road 0

        // In deed: moods, places and what is led change.
        show(net.traveller(0));             // 0: a traveller in place 0
        show(net.goes(0, 0, 1));            // 10: hours that road 0 took; he thanks it
        show(net.hours(0));                 // 9: road 0 is in a better mood
        show(net.hours(1));                 // 21: road 1 took it ill
        show(net.goes(0, 2, 0));            // -5: STATE, road 2 does not end in place 1, where he is now
        show(net.image());                  // 1: so many roads were gone when the image was made
        show(net.night());                  // 1: the first night; moods are calmer
        show(net.hours(1));                 // 20: road 1 forgot
        show(net.back());                   // 1: the image is laid back
        show(net.hours(1));                 // 21: and the night never was
        show(net.mend(0, 0, 50));           // 10: road 0 had length 10, and has 50 now
        show(net.undo());                   // 1: undone; the jealousy may still be
        show(net.redo());                   // 0: done again; nothing more may be

        // A law comes byte by byte.
        show(feed(net, "m<0?l+5;l-m*2"));   // 13: so many bytes are on the tape
        show(net.law());                    // 1: it is the law from now on
        show(net.hours(1));                 // 25: its mood is below 0, so the first line counts
        show(net.hours(0));                 // 48: its mood is 1, so the second line counts
        show(feed(net, "l-"));              // 2: a text that ends too early
        show(net.law());                    // -102: -100 less its fault, 2; the old law stays

        // Rows on shelves: a Sunday's hours (shorts), and a trip (bytes).
        show(net.judge(0));                 // -11: there is nothing on shelf 0
        show(net.row(0, 1, 2));             // 1: a row of two shorts
        show(net.put(0, 0, 48));            // 1: hours of road 0
        show(net.put(0, 1, 26));            // 1: hours of road 1
        show(net.put(0, 2, 40));            // -13: the row has no such place
        show(net.judge(0));                 // 1: road 1 is the first that does not take as long
        show(net.sunday(0, 1));             // -9: nor does it behind any one deed
        show(net.row(1, 0, 2));             // 1: a row of two bytes
        show(net.put(1, 0, 3 * 2 + 1));     // 1: road 2, with thanks
        show(net.put(1, 1, 3 * 1));         // 1: road 1, with nothing
        show(net.trip(1, 0, 0));            // 65: hours of the trip from place 0
        show(net.trip(1, 0, 1));            // 1: it ends in place 1
        show(net.trip(0, 0, 0));            // -2000000000: VOID, shelf 0 holds no row of bytes

        // Stones and their acts.
        show(net.body(1));                  // 0: a stone of kind 1, a LANE
        show(net.act(0, 1, 5));             // 16: it thanks: (5 + 0 + 3) * 2
        show(net.trace(0));                 // 10: bodies that ran: 10, 20, 1
        show(net.keep(2, 0));               // 1: shelf 2 holds it
        show(net.taken(2, 0));              // 1: taken for a STONE, it is of kind 1
        show(net.taken(2, 2));              // -12: it is no GRAVEL
        show(net.count(5));                 // 3: so many bodies ran in the latest act
    }

    private static int feed(RoadsThanked net, String text) {
        int bytes = 0;
        for (char letter : text.toCharArray()) {
            bytes = net.feed(letter);
        }
        return bytes;
    }

    private static void show(long answer) {
        System.out.println(answer);
    }
}
