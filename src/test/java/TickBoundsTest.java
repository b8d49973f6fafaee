/** Promise 6 and the two paragraphs of a tick: a state on either side of each bound they name. */
final class TickBoundsTest {
    private static final int[] LENGTHS = {8, 9, 11, 12, 59, 60};

    public static void main(String[] args) {
        belowZeroCountsAsZero();
        aboveTwoHundredCountsAsTwoHundred();
        answersForItsOwnTicksAlone();
        ticksOnEmptyBeltsDoNothing();
        ticksOnFullBeltsDoNothing();
        for (int length : LENGTHS) {
            goesOutFromPlaceZeroAlone(length);
            goesOnFromPlaceZeroAlone(length);
            goesOnToAnEmptyBelt(length);
            goesOnIfThereIsRoomBeforeTheBeltMoves(length);
            goesOnIfThereIsRoomAfterTheBeltMoved(length);
            doesNotGoOnToAFullBelt(length);
            movesAboveZeroAlone(length);
            putsByTheLastItem(length);
            reachesUpToTheStart(length);
        }
        staysAtAClosedEnd();
        arrivesAtTheLength();
        movesMoreThanFourBehind();
        theFirstNeedsNoGap();
        theNextIsFirstOnceTheFirstHasGone();
        theRowStaysIfTheFirstStays();
        beltsTakeTurnsInOrder();
        aFullRingStays();
        aRingWithOneGapGoesAround();
        putsOnAnEmptyBeltAndNotOnAFullOne();
        takesNothingInTheTickOfPutting();
        putsNothingInTheTickOfTaking();
        takesFromReachToReachAndThree();
        takesTheOneOfItsKinds();
        doesNothingUnlessSet();
        armsTakeTurnsInOrder();
        Checks.end();
    }

    /** "n below 0 counts as 0": not even the item that could go out at once goes. */
    private static void belowZeroCountsAsZero() {
        for (int n : new int[] {0, -1, -2, -200, -201, Integer.MIN_VALUE}) {
            BeltLanes x = Scenes.belts(8, "0:1 5:2", "8:3", "", "");
            x.lead(0, BeltLanes.OPEN);
            x.arm(0, 1 | (2 << 2), 8, 255);
            Checks.same("tick(" + n + ")", x.tick(n), 0);
            Checks.belts("belts after tick(" + n + ")", x, "0:1 5:2", "8:3", "", "");
            Checks.same("held after tick(" + n + ")", x.held(0), BeltLanes.NOTHING);
            Checks.same("out after tick(" + n + ")", x.out(), 0);
            Checks.same("tick(1)", x.tick(1), 1);
            Checks.belts("belts after tick(1)", x, "4:2", "7:3", "", "");
        }
    }

    /** "above 200 as 200": an item goes around two belts of length 60 in 121 ticks. */
    private static void aboveTwoHundredCountsAsTwoHundred() {
        int[][] ticks = {{199, 42}, {200, 41}, {201, 41}, {202, 41}, {400, 41}, {Integer.MAX_VALUE, 41}};
        for (int[] pair : ticks) {
            BeltLanes x = new BeltLanes(60);
            x.lead(0, 1);
            x.lead(1, 0);
            x.put(0, 1);
            x.tick(pair[0]);
            Checks.belts("after tick(" + pair[0] + ")", x, "", pair[1] + ":1", "", "");
        }
    }

    private static void answersForItsOwnTicksAlone() {
        BeltLanes x = Scenes.belts(8, "0:1 4:2 8:3", "0:4", "1:5", "0:6");
        for (int belt = 0; belt < 3; belt++) {
            x.lead(belt, BeltLanes.OPEN);
        }
        int[][] ticks = {{0, 0}, {1, 2}, {0, 0}, {1, 1}, {-1, 0}, {2, 0}, {1, 1}, {200, 1}, {200, 0}};
        int out = 0;
        for (int[] pair : ticks) {
            Checks.same("tick(" + pair[0] + ")", x.tick(pair[0]), pair[1]);
            out += pair[1];
            Checks.same("out in all", x.out(), out);
        }
        Checks.belts("what is left", x, "", "", "", "0:6");
    }

    private static void ticksOnEmptyBeltsDoNothing() {
        for (int length : LENGTHS) {
            BeltLanes x = new BeltLanes(length);
            x.lead(0, BeltLanes.OPEN);
            x.lead(1, 0);
            x.arm(0, 4, 0, 255);
            x.arm(1, 1, 60, 255);
            Checks.same("tick on empty belts", x.tick(200), 0);
            Checks.belts("empty belts", x, "", "", "", "");
            Checks.same("held(0)", x.held(0), BeltLanes.NOTHING);
            Checks.same("held(1)", x.held(1), BeltLanes.NOTHING);
        }
    }

    private static void ticksOnFullBeltsDoNothing() {
        for (int length : LENGTHS) {
            String full = Scenes.fullOf(length, 4);
            BeltLanes x = Scenes.belts(length, full, full, full, full);
            Checks.same("tick on full belts", x.tick(200), 0);
            Checks.belts("full belts", x, full, full, full, full);
        }
    }

    /** "if its first item is at place 0: if the end is open, the item goes out" */
    private static void goesOutFromPlaceZeroAlone(int length) {
        for (int place = 0; place <= length; place++) {
            BeltLanes x = Scenes.oneBelt(length, 2, place + ":3");
            x.lead(2, BeltLanes.OPEN);
            Checks.same("tick with the first at " + place, x.tick(1), place == 0 ? 1 : 0);
            Checks.same("out", x.out(), place == 0 ? 1 : 0);
            Checks.same("belt", Checks.belt(x, 2), place == 0 ? "" : (place - 1) + ":3");
        }
    }

    /** "if the end leads to a belt ..., the item goes there": from place 0, not from 1. */
    private static void goesOnFromPlaceZeroAlone(int length) {
        BeltLanes x = Scenes.oneBelt(length, 0, "1:3");
        x.lead(0, 1);
        x.tick(1);
        Checks.belts("the first at 1", x, "0:3", "", "", "");
        x.tick(1);
        Checks.belts("the first at 0", x, "", (length - 1) + ":3", "", "");
        Checks.same("going to a belt is not going out", x.out(), 0);
    }

    private static void goesOnToAnEmptyBelt(int length) {
        for (int belt = 0; belt < 4; belt++) {
            for (int to = 0; to < 4; to++) {
                if (to != belt) {
                    BeltLanes x = Scenes.oneBelt(length, belt, "0:7");
                    x.lead(belt, to);
                    Checks.same("tick", x.tick(1), 0);
                    Checks.same("left", Checks.belt(x, belt), "");
                    Checks.same("come", Checks.belt(x, to), (to > belt ? length - 1 : length) + ":7");
                }
            }
        }
    }

    /** "a belt that has room at its start": belt 0 looks at belt 1 before its turn. */
    private static void goesOnIfThereIsRoomBeforeTheBeltMoves(int length) {
        for (int last = 0; last <= length; last++) {
            BeltLanes x = Scenes.belts(length, "0:1", last + ":2", "", "");
            x.lead(0, 1);
            x.tick(1);
            boolean goes = last <= length - 4;
            Checks.same("on belt 0, the last of belt 1 at " + last, x.items(0), goes ? 0 : 1);
            Checks.same("on belt 1, its last at " + last, x.items(1), goes ? 2 : 1);
        }
    }

    /** Belt 3 looks at belt 1 after its turn, in which its item came 1 nearer. */
    private static void goesOnIfThereIsRoomAfterTheBeltMoved(int length) {
        for (int last = 1; last <= length; last++) {
            BeltLanes x = Scenes.belts(length, "", last + ":2", "", "0:1");
            x.lead(3, 1);
            x.tick(1);
            boolean goes = last - 1 <= length - 4;
            Checks.same("on belt 3, the last of belt 1 at " + last, x.items(3), goes ? 0 : 1);
            Checks.same("on belt 1", Checks.belt(x, 1), (last - 1) + ":2" + (goes ? " " + length + ":1" : ""));
        }
    }

    private static void doesNotGoOnToAFullBelt(int length) {
        String full = Scenes.fullOf(length, 2);
        BeltLanes x = Scenes.belts(length, "0:1", full, "", "");
        x.lead(0, 1);
        x.tick(200);
        Checks.belts("led to a full belt", x, "0:1", full, "", "");
    }

    /** "moves by 1 towards the end, if its place is above 0" */
    private static void movesAboveZeroAlone(int length) {
        for (int place = 0; place <= length; place++) {
            BeltLanes x = Scenes.oneBelt(length, 1, place + ":3");
            x.tick(1);
            Checks.same("moved from " + place, x.place(1, 0), place == 0 ? 0 : place - 1);
        }
    }

    private static void staysAtAClosedEnd() {
        BeltLanes x = Scenes.belts(8, "0:1", "1:2", "0:3 4:4", "0:5 5:6");
        Checks.same("tick with closed ends", x.tick(1), 0);
        Checks.belts("closed ends", x, "0:1", "0:2", "0:3 4:4", "0:5 4:6");
        Checks.same("tick with closed ends", x.tick(200), 0);
        Checks.belts("closed ends", x, "0:1", "0:2", "0:3 4:4", "0:5 4:6");
        Checks.same("out", x.out(), 0);
    }

    /** "at the place of that belt's length": seen where a row keeps the item from moving at once. */
    private static void arrivesAtTheLength() {
        BeltLanes x = Scenes.belts(8, "0:1", "0:2 4:3", "", "");
        x.lead(0, 1);
        x.tick(1);
        Checks.belts("held back by the row", x, "", "0:2 4:3 8:1", "", "");
    }

    /** "for an item that isn't the first, the item before it is more than 4 nearer to the end" */
    private static void movesMoreThanFourBehind() {
        for (int place = 4; place <= 60; place++) {
            BeltLanes x = Scenes.oneBelt(60, 0, "0:1 " + place + ":2");
            x.tick(1);
            Checks.same("moved from " + place, x.place(0, 1), place == 4 ? 4 : place - 1);
        }
        for (int place = 8; place <= 12; place++) {
            BeltLanes x = Scenes.oneBelt(12, 0, "0:1 4:2 " + place + ":3");
            x.tick(1);
            Checks.same("third moved from " + place, x.place(0, 2), place == 8 ? 8 : place - 1);
        }
        BeltLanes row = Scenes.oneBelt(12, 0, "1:1 5:2 9:3");
        row.tick(1);
        Checks.same("4 behind one that has moved", Checks.belt(row, 0), "0:1 4:2 8:3");
        BeltLanes split = Scenes.oneBelt(14, 0, "0:1 5:2 9:3 14:4");
        split.tick(1);
        Checks.same("some stay, some move", Checks.belt(split, 0), "0:1 4:2 8:3 13:4");
    }

    private static void theFirstNeedsNoGap() {
        for (int place = 1; place <= 5; place++) {
            BeltLanes x = Scenes.belts(8, "0:1", place + ":2", "0:3", "");
            x.tick(1);
            Checks.same("the first from " + place, x.place(1, 0), place - 1);
        }
    }

    private static void theNextIsFirstOnceTheFirstHasGone() {
        BeltLanes out = Scenes.oneBelt(8, 0, "0:1 4:2 8:3");
        out.lead(0, BeltLanes.OPEN);
        Checks.same("tick", out.tick(1), 1);
        Checks.same("a full belt moves when its first is out", Checks.belt(out, 0), "3:2 7:3");
        BeltLanes on = Scenes.oneBelt(8, 0, "0:1 4:2 8:3");
        on.lead(0, 2);
        on.tick(1);
        Checks.belts("a full belt moves when its first has gone on", on, "3:2 7:3", "", "7:1", "");
    }

    private static void theRowStaysIfTheFirstStays() {
        BeltLanes x = Scenes.belts(8, "0:1 4:2 8:3", "8:4", "", "");
        x.lead(0, 1);
        x.tick(3);
        Checks.belts("no room on belt 1 as yet", x, "0:1 4:2 8:3", "5:4", "", "");
        x.tick(1);
        Checks.belts("belt 0 looks before belt 1 moves", x, "0:1 4:2 8:3", "4:4", "", "");
        x.tick(1);
        Checks.belts("room on belt 1", x, "3:2 7:3", "3:4 7:1", "", "");
    }

    /** "the belts in the order 0 to 3": an item that comes to a later belt still moves in this tick. */
    private static void beltsTakeTurnsInOrder() {
        BeltLanes up = Scenes.belts(8, "0:1", "0:2", "0:3", "0:4");
        for (int belt = 0; belt < 4; belt++) {
            up.lead(belt, (belt + 1) % 4);
        }
        up.tick(1);
        Checks.belts("around upwards", up, "8:4", "7:1", "7:2", "7:3");
        BeltLanes down = Scenes.belts(8, "0:1", "0:2", "0:3", "0:4");
        for (int belt = 0; belt < 4; belt++) {
            down.lead(belt, (belt + 3) % 4);
        }
        down.tick(1);
        Checks.belts("around downwards", down, "8:2", "8:3", "8:4", "7:1");
    }

    private static void aFullRingStays() {
        BeltLanes x = Scenes.make(Scenes.FULL);
        String before = Checks.state(x);
        Checks.same("tick of a full ring", x.tick(200), 0);
        Checks.same("state of a full ring", Checks.state(x), before);
    }

    /** Belt 3 has room for one more: the room wanders against the items, from belt to belt. */
    private static void aRingWithOneGapGoesAround() {
        BeltLanes x = Scenes.belts(8, "0:1 4:2 8:3", "0:4 4:5 8:6", "0:7 4:0 8:1", "0:2 4:3");
        for (int belt = 0; belt < 4; belt++) {
            x.lead(belt, (belt + 1) % 4);
        }
        x.tick(1);
        Checks.belts("belt 2 finds room", x, "0:1 4:2 8:3", "0:4 4:5 8:6", "3:0 7:1", "0:2 4:3 8:7");
        x.tick(3);
        Checks.belts("belt 2 comes up", x, "0:1 4:2 8:3", "0:4 4:5 8:6", "0:0 4:1", "0:2 4:3 8:7");
        x.tick(1);
        Checks.belts("belt 1 finds room", x, "0:1 4:2 8:3", "3:5 7:6", "0:0 4:1 8:4", "0:2 4:3 8:7");
    }

    /** An arm with an item in hand, over belt 1. */
    private static BeltLanes holding(int length, String belt1) {
        BeltLanes x = Scenes.belts(length, "0:0", belt1, "", "");
        x.arm(0, 0, 0, 255);
        x.tick(1);
        Checks.same("held", x.held(0), 0);
        x.arm(0, 4, 0, 255);
        return x;
    }

    /** "if the belt it puts on has room at its start": the last one moves before the arm's turn. */
    private static void putsByTheLastItem(int length) {
        for (int last = 2; last <= length; last++) {
            BeltLanes x = holding(length, last + ":2");
            x.tick(1);
            boolean puts = last - 2 <= length - 4;
            Checks.same("held, the last at " + last, x.held(0), puts ? BeltLanes.NOTHING : 0);
            Checks.same("belt 1", Checks.belt(x, 1), (last - 2) + ":2" + (puts ? " " + length + ":0" : ""));
        }
    }

    private static void putsOnAnEmptyBeltAndNotOnAFullOne() {
        for (int length : LENGTHS) {
            BeltLanes empty = holding(length, "");
            empty.tick(1);
            Checks.belts("put at the length", empty, "", length + ":0", "", "");
            Checks.same("held", empty.held(0), BeltLanes.NOTHING);
            BeltLanes full = holding(length, Scenes.fullOf(length, 2));
            full.tick(200);
            Checks.belts("not put on a full belt", full, "", Scenes.fullOf(length, 2), "", "");
            Checks.same("held over a full belt", full.held(0), 0);
        }
    }

    /** "and that is all": an item lies in reach in the very tick. */
    private static void takesNothingInTheTickOfPutting() {
        BeltLanes x = holding(8, "");
        x.put(0, 5);
        x.arm(0, 4, 5, 255);
        x.tick(1);
        Checks.belts("puts", x, "7:5", "8:0", "", "");
        Checks.same("takes nothing", x.held(0), BeltLanes.NOTHING);
        x.tick(1);
        Checks.belts("takes a tick later", x, "", "7:0", "", "");
        Checks.same("takes a tick later", x.held(0), 5);
        BeltLanes y = holding(8, "0:1 4:2 8:3");
        y.put(0, 5);
        y.arm(0, 4, 5, 255);
        y.tick(2);
        Checks.same("takes nothing while it holds", y.held(0), 0);
        Checks.same("takes nothing while it holds", Checks.belt(y, 0), "6:5");
    }

    private static void putsNothingInTheTickOfTaking() {
        BeltLanes x = Scenes.oneBelt(8, 0, "0:1");
        x.arm(1, 4, 0, 255);
        x.tick(1);
        Checks.belts("takes", x, "", "", "", "");
        Checks.same("takes", x.held(1), 1);
        x.tick(1);
        Checks.belts("puts a tick later", x, "", "8:1", "", "");
    }

    /** "at places from its reach to its reach + 3": all places that an item can be at, then. */
    private static void takesFromReachToReachAndThree() {
        for (int reach = 0; reach <= 60; reach++) {
            for (int place = 0; place <= 8; place++) {
                takesInReach(8, reach, place);
            }
            for (int place = reach - 1; place <= reach + 4; place++) {
                if (place >= 0 && place <= 60) {
                    takesInReach(60, reach, place);
                }
            }
        }
    }

    private static void takesInReach(int length, int reach, int place) {
        boolean takes = place >= reach && place <= reach + 3;
        BeltLanes x = new BeltLanes(length);
        // Belt 3 brings the item to the start of belt 0 after belt 0's turn, at its full length.
        x.lead(3, 0);
        x.put(3, 6);
        x.tick(length);
        x.tick(length - place);
        x.arm(0, 4, reach, 255);
        x.tick(1);
        Checks.same("reach " + reach + ", item at " + place, x.held(0), takes ? 6 : BeltLanes.NOTHING);
        Checks.same("reach " + reach + ", belt", Checks.belt(x, 0), takes ? "" : place + ":6");
    }

    /** A reach that ends beyond the belt's start, or begins there. */
    private static void reachesUpToTheStart(int length) {
        for (int reach = length - 4; reach <= 60; reach++) {
            takesInReach(length, reach, length);
        }
    }

    /** "the one nearest to the end whose kind it takes, if there is one" */
    private static void takesTheOneOfItsKinds() {
        for (int kind = 0; kind < 8; kind++) {
            int[] sets = {0, 1 << kind, 255 - (1 << kind), 255};
            for (int set = 0; set < 4; set++) {
                BeltLanes x = Scenes.oneBelt(8, 0, "0:" + kind + " 4:" + kind + " 8:" + kind);
                x.arm(0, 4, 1, sets[set]);
                x.tick(1);
                boolean takes = set % 2 == 1;
                Checks.same("kind " + kind + " of set " + sets[set], x.held(0), takes ? kind : BeltLanes.NOTHING);
                String left = "0:" + kind + (takes ? " 8:" : " 4:" + kind + " 8:") + kind;
                Checks.same("kind " + kind + ", what is left", Checks.belt(x, 0), left);
            }
        }
    }

    private static void doesNothingUnlessSet() {
        BeltLanes none = Scenes.belts(8, "0:0 4:1 8:2", "0:3 4:4 8:5", "0:6 4:7 8:0", "0:1 4:2 8:3");
        none.tick(3);
        Checks.same("held(0), not set", none.held(0), BeltLanes.NOTHING);
        Checks.same("held(1), not set", none.held(1), BeltLanes.NOTHING);
        for (int arm = 0; arm < 2; arm++) {
            BeltLanes x = Scenes.belts(8, "0:0 4:1 8:2", "0:3 4:4 8:5", "0:6 4:7 8:0", "0:1 4:2 8:3");
            x.arm(arm, 1, 0, 255);
            x.tick(1);
            Checks.same("held by the arm that is set", x.held(arm), 3);
            Checks.same("held by the other one", x.held(1 - arm), BeltLanes.NOTHING);
            Checks.belts("belts", x, "0:0 4:1 8:2", "4:4 8:5", "0:6 4:7 8:0", "0:1 4:2 8:3");
        }
    }

    /** "then the arms 0 and 1": both at one item, both at one start, one at what the other puts. */
    private static void armsTakeTurnsInOrder() {
        BeltLanes one = Scenes.oneBelt(8, 0, "0:5");
        one.arm(0, 4, 0, 255);
        one.arm(1, 4, 0, 255);
        one.tick(1);
        Checks.same("arm 0 takes it", one.held(0), 5);
        Checks.same("arm 1 does not", one.held(1), BeltLanes.NOTHING);
        BeltLanes start = Scenes.belts(8, "0:5", "0:6", "", "");
        start.arm(0, 0 | (2 << 2), 0, 255);
        start.arm(1, 1 | (2 << 2), 0, 255);
        start.tick(2);
        Checks.belts("arm 0 puts", start, "", "", "8:5", "");
        Checks.same("arm 1 waits", start.held(1), 6);
        start.tick(3);
        Checks.same("arm 1 waits while the last is above 4", start.held(1), 6);
        start.tick(1);
        Checks.belts("arm 1 puts", start, "", "", "4:5 8:6", "");
        BeltLanes relay = Scenes.oneBelt(8, 0, "0:5");
        relay.arm(0, 0 | (1 << 2), 0, 255);
        relay.arm(1, 1 | (2 << 2), 8, 255);
        relay.tick(2);
        Checks.same("arm 1 takes what arm 0 put", relay.held(1), 5);
        BeltLanes back = Scenes.oneBelt(8, 0, "0:5");
        back.arm(1, 0 | (1 << 2), 0, 255);
        back.arm(0, 1 | (2 << 2), 8, 255);
        back.tick(2);
        Checks.same("arm 0 had its turn before arm 1 put", back.held(0), BeltLanes.NOTHING);
        Checks.belts("what arm 1 put", back, "", "8:5", "", "");
    }
}
