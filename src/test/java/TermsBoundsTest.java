/** The bounds that "Terms" names, apart from those of a tick: a value on either side of each. */
final class TermsBoundsTest {
    private static final int[] LENGTHS = {8, 9, 10, 11, 12, 31, 59, 60};

    public static void main(String[] args) {
        thereAreFourBelts();
        lengthsAreEightToSixty();
        kindsAreZeroToSeven();
        placesAreZeroToTheLength();
        for (int length : LENGTHS) {
            hasRoomIfEmpty(length);
            hasRoomByItsLastItem(length);
            hasNoRoomWhenFull(length);
            hasRoomByTheLastNotTheFirst(length);
            putKeepsFourApart(length);
            leadingKeepsFourApart(length);
            anArmKeepsFourApart(length);
            movingKeepsFourApart(length);
        }
        itemsStayApartAndInOrder();
        theFirstIsNearestToTheEnd();
        endsLeadToOtherBelts();
        thereAreTwoArms();
        reachesAreZeroToSixty();
        Checks.end();
    }

    /** "There are four BELTS (0 to 3)": each call that is given a belt. */
    private static void thereAreFourBelts() {
        for (int belt = -2; belt <= 5; belt++) {
            boolean is = belt >= 0 && belt <= 3;
            BeltLanes x = new BeltLanes(8);
            Checks.same("items(" + belt + ")", x.items(belt), is ? 0 : BeltLanes.BAD_BELT);
            Checks.same("room(" + belt + ")", x.room(belt), is);
            Checks.same("put(" + belt + ")", x.put(belt, 6), is ? 1 : BeltLanes.BAD_BELT);
            Checks.same("place(" + belt + ")", x.place(belt, 0), is ? 8 : BeltLanes.BAD_BELT);
            Checks.same("kind(" + belt + ")", x.kind(belt, 0), is ? 6 : BeltLanes.BAD_BELT);
            Checks.same("moving(" + belt + ")", x.moving(belt), is ? 1 : BeltLanes.BAD_BELT);
            x.tick(8);
            Checks.same("take(" + belt + ")", x.take(belt), is ? 6 : BeltLanes.BAD_BELT);
            x.lead(belt, BeltLanes.OPEN);
            Checks.same("lead(" + belt + ")", x.lead(belt, BeltLanes.OPEN), is ? BeltLanes.OPEN : BeltLanes.BAD_BELT);
        }
    }

    /** "each with a length of 8 to 60": an item needs as many ticks to the end. */
    private static void lengthsAreEightToSixty() {
        int[][] lengths = {{7, 8}, {8, 8}, {9, 9}, {59, 59}, {60, 60}, {61, 60}};
        for (int[] pair : lengths) {
            for (int belt = 0; belt < 4; belt++) {
                BeltLanes x = new BeltLanes(pair[0]);
                x.put(belt, 1);
                x.tick(pair[1] - 1);
                Checks.same("place a tick before the end", x.place(belt, 0), 1);
                Checks.same("take a tick before the end", x.take(belt), BeltLanes.NOTHING);
                x.tick(1);
                Checks.same("take at the end", x.take(belt), 1);
            }
        }
    }

    /** "A belt carries ITEMS of kinds 0 to 7": from its start to its end. */
    private static void kindsAreZeroToSeven() {
        for (int kind = -2; kind <= 9; kind++) {
            boolean is = kind >= 0 && kind <= 7;
            BeltLanes x = new BeltLanes(8);
            Checks.same("put of kind " + kind, x.put(3, kind), is ? 1 : BeltLanes.BAD_KIND);
            Checks.same("kind at the start", x.kind(3, 0), is ? kind : BeltLanes.NOTHING);
            x.tick(8);
            Checks.same("kind at the end", x.kind(3, 0), is ? kind : BeltLanes.NOTHING);
            Checks.same("take of kind " + kind, x.take(3), is ? kind : BeltLanes.NOTHING);
        }
    }

    /** "an item's PLACE is its distance from the belt's end, 0 to the length" */
    private static void placesAreZeroToTheLength() {
        for (int length : LENGTHS) {
            BeltLanes x = new BeltLanes(length);
            x.put(0, 1);
            for (int ticks = 0; ticks <= length + 3; ticks++) {
                Checks.same("place after " + ticks, x.place(0, 0), ticks < length ? length - ticks : 0);
                x.tick(1);
            }
        }
    }

    /** "HAS ROOM AT ITS START if it is empty": at first, and again when its one item is gone. */
    private static void hasRoomIfEmpty(int length) {
        BeltLanes x = new BeltLanes(length);
        Checks.same("room on a new belt", x.room(2), true);
        x.put(2, 1);
        Checks.same("room with an item at the start", x.room(2), false);
        x.tick(length);
        x.take(2);
        Checks.same("room on a belt that is empty again", x.room(2), true);
        Checks.same("put on a belt that is empty again", x.put(2, 1), 1);
    }

    /** "or its last item's place is at most its length less 4": every place it can be at. */
    private static void hasRoomByItsLastItem(int length) {
        for (int place = 0; place <= length; place++) {
            BeltLanes x = Scenes.oneBelt(length, 1, place + ":5");
            boolean due = place <= length - 4;
            Checks.same("room, the last at " + place + " of " + length, x.room(1), due);
            Checks.same("put, the last at " + place + " of " + length, x.put(1, 0), due ? 2 : BeltLanes.NO_ROOM);
            Checks.same("items then", x.items(1), due ? 2 : 1);
        }
    }

    private static void hasNoRoomWhenFull(int length) {
        BeltLanes x = Scenes.oneBelt(length, 0, Scenes.fullOf(length, 3));
        int most = length / 4 + 1;
        Checks.same("items of a full belt", x.items(0), most);
        Checks.same("room on a full belt", x.room(0), false);
        Checks.same("put on a full belt", x.put(0, 3), BeltLanes.NO_ROOM);
        Checks.same("a full belt stays so", x.tick(200), 0);
        Checks.same("put on a full belt", x.put(0, 3), BeltLanes.NO_ROOM);
        x.take(0);
        // The last one of a full belt has to come to length - 4, which takes 1 to 4 ticks.
        x.tick(3 - length % 4);
        Checks.same("a tick before there is room", x.room(0), false);
        x.tick(1);
        Checks.same("as soon as there is room", x.room(0), true);
        Checks.same("put makes it full again", x.put(0, 3), most);
    }

    /** The first item is far enough off here, the last one is not. */
    private static void hasRoomByTheLastNotTheFirst(int length) {
        for (int last = length - 4; last <= length; last++) {
            BeltLanes x = Scenes.oneBelt(length, 3, "0:1 " + last + ":2");
            Checks.same("room, 0 and " + last + " of " + length, x.room(3), last == length - 4);
        }
    }

    /** "two items of a belt are always at least 4 apart", however the second one comes to it. */
    private static void putKeepsFourApart(int length) {
        BeltLanes near = Scenes.oneBelt(length, 0, (length - 3) + ":1");
        near.put(0, 2);
        Checks.same("put, 3 apart", Checks.belt(near, 0), (length - 3) + ":1");
        BeltLanes far = Scenes.oneBelt(length, 0, (length - 4) + ":1");
        far.put(0, 2);
        Checks.same("put, 4 apart", Checks.belt(far, 0), (length - 4) + ":1 " + length + ":2");
    }

    private static void leadingKeepsFourApart(int length) {
        BeltLanes near = Scenes.belts(length, "0:2", (length - 3) + ":1", "", "");
        near.lead(0, 1);
        near.tick(1);
        Checks.belts("led, 3 apart", near, "0:2", (length - 4) + ":1", "", "");
        BeltLanes far = Scenes.belts(length, "0:2", (length - 4) + ":1", "", "");
        far.lead(0, 1);
        far.tick(1);
        Checks.belts("led, 4 apart", far, "", (length - 5) + ":1 " + (length - 1) + ":2", "", "");
    }

    /** The arm's turn comes after that of the belt, which has moved by 1 then. */
    private static void anArmKeepsFourApart(int length) {
        for (int apart = 3; apart <= 4; apart++) {
            BeltLanes x = Scenes.belts(length, "1:2", (length - apart + 2) + ":1", "", "");
            x.arm(0, 4, 0, 255);
            x.tick(1);
            Checks.same("held", x.held(0), 2);
            x.tick(1);
            String due = (length - apart) + ":1" + (apart == 3 ? "" : " " + length + ":2");
            Checks.same("put by an arm, " + apart + " apart", Checks.belt(x, 1), due);
        }
    }

    private static void movingKeepsFourApart(int length) {
        BeltLanes x = Scenes.oneBelt(length, 2, "0:1 6:2");
        x.tick(1);
        Checks.same("5 apart", Checks.belt(x, 2), "0:1 5:2");
        x.tick(1);
        Checks.same("4 apart", Checks.belt(x, 2), "0:1 4:2");
        x.tick(3);
        Checks.same("not nearer", Checks.belt(x, 2), "0:1 4:2");
    }

    /** Belts in a ring with both arms at work, looked at after each number of ticks. */
    private static void itemsStayApartAndInOrder() {
        for (int length = 8; length <= 14; length++) {
            for (int ticks = 0; ticks < 90; ticks++) {
                BeltLanes x = new BeltLanes(length);
                for (int belt = 0; belt < 4; belt++) {
                    x.lead(belt, (belt + 1) % 4);
                }
                x.arm(0, 0 | (2 << 2), 3, 255);
                x.arm(1, 1 | (1 << 2), 5, 0x5a);
                for (int done = 0; done < ticks; done++) {
                    x.put(done % 4, done % 8);
                    x.tick(1);
                }
                for (int belt = 0; belt < 4; belt++) {
                    areApart(x, belt, length);
                }
            }
        }
    }

    private static void areApart(BeltLanes x, int belt, int length) {
        int before = -4;
        int items = x.items(belt);
        for (int i = 0; i < items; i++) {
            int place = x.place(belt, i);
            Checks.same("place " + place + " after " + before, place - before >= 4 && place <= length, true);
            before = place;
        }
    }

    /** "the FIRST is nearest to the end": item number 0, and the one that take takes. */
    private static void theFirstIsNearestToTheEnd() {
        BeltLanes x = Scenes.oneBelt(8, 0, "0:7 4:0 8:5");
        Checks.same("first of a full belt", x.kind(0, 0), 7);
        Checks.same("last of a full belt", x.kind(0, 2), 5);
        Checks.same("take takes the first", x.take(0), 7);
        Checks.same("the next is the first now", x.kind(0, 0), 0);
    }

    /** "A belt's END leads nowhere (CLOSED), out (OPEN), or to the start of another belt." */
    private static void endsLeadToOtherBelts() {
        for (int belt = 0; belt < 4; belt++) {
            for (int to = -4; to <= 5; to++) {
                boolean can = to >= -2 && to <= 3 && to != belt;
                BeltLanes x = Scenes.oneBelt(8, belt, "0:6");
                Checks.same("lead to " + to, x.lead(belt, to), can ? BeltLanes.CLOSED : BeltLanes.BAD_NUMBER);
                Checks.same("out, led to " + to, x.tick(1), to == BeltLanes.OPEN ? 1 : 0);
                for (int other = 0; other < 4; other++) {
                    boolean cameThere = can && other == to;
                    boolean stayed = other == belt && (!can || to == BeltLanes.CLOSED);
                    Checks.same("items, led to " + to, x.items(other), cameThere || stayed ? 1 : 0);
                }
            }
        }
    }

    /** "There are two ARMS (0 and 1)." */
    private static void thereAreTwoArms() {
        for (int arm = -2; arm <= 3; arm++) {
            boolean is = arm == 0 || arm == 1;
            BeltLanes x = Scenes.oneBelt(8, 0, "5:6");
            Checks.same("held(" + arm + "), empty", x.held(arm), is ? BeltLanes.NOTHING : BeltLanes.BAD_NUMBER);
            Checks.same("arm(" + arm + ")", x.arm(arm, 4, 4, 255), is ? 0 : BeltLanes.BAD_NUMBER);
            x.tick(1);
            Checks.same("held(" + arm + ")", x.held(arm), is ? 6 : BeltLanes.BAD_NUMBER);
            Checks.same("items left", x.items(0), is ? 0 : 1);
        }
    }

    /** "a REACH (0 to 60)" */
    private static void reachesAreZeroToSixty() {
        for (int reach : new int[] {-2, -1, 0, 1, 59, 60, 61, 62}) {
            boolean is = reach >= 0 && reach <= 60;
            BeltLanes x = new BeltLanes(60);
            Checks.same("arm 0, reach " + reach, x.arm(0, 4, reach, 255), is ? 0 : BeltLanes.BAD_NUMBER);
            Checks.same("arm 1, reach " + reach, x.arm(1, 4, reach, 255), is ? 0 : BeltLanes.BAD_NUMBER);
        }
    }
}
