/** Promise 6, with what the terms say of a tick. */
final class Promise06TickTest {
    public static void main(String[] args) {
        countsTicks();
        answersWhatWentOut();
        movesItemsInOrder();
        stopsAtTheEnd();
        goesOutBeforeMoving();
        leadsToALaterBelt();
        leadsToAnEarlierBelt();
        waitsForRoomOnTheNextBelt();
        findsRoomAsTheNextBeltIsThen();
        worksArmsAfterBelts();
        putsAndTakesInTicksOfTheirOwn();
        holdsUntilThereIsRoom();
        reachesFourPlaces();
        passesOverOtherKinds();
        worksArmZeroFirst();
        carriesOnOneBelt();
        closesTheGapBehindATakenItem();
        Checks.end();
    }

    private static void countsTicks() {
        int[][] ticks = {{0, 0}, {1, 1}, {7, 7}, {59, 59}, {-1, 0}, {-200, 0}, {Integer.MIN_VALUE, 0}};
        for (int[] pair : ticks) {
            BeltLanes x = new BeltLanes(60);
            x.put(0, 0);
            Checks.same("tick", x.tick(pair[0]), 0);
            Checks.same("place after tick(" + pair[0] + ")", x.place(0, 0), 60 - pair[1]);
        }
        Checks.same("ticks of tick(199)", ticksWorked(199), 199);
        Checks.same("ticks of tick(200)", ticksWorked(200), 200);
        Checks.same("ticks of tick(201)", ticksWorked(201), 200);
        Checks.same("ticks of tick(1000)", ticksWorked(1000), 200);
        Checks.same("ticks of the greatest", ticksWorked(Integer.MAX_VALUE), 200);
    }

    /**
     * An item goes around belts 0 and 1 of length 60: it is on belt 0 from 60 down to 0, at 59 of
     * belt 1 a tick later, down to 0 of it, and a tick later at 60 of belt 0, 121 ticks in all.
     */
    private static int ticksWorked(int n) {
        BeltLanes x = new BeltLanes(60);
        x.lead(0, 1);
        x.lead(1, 0);
        x.put(0, 0);
        x.tick(n);
        int round = x.items(0) == 1 ? 60 - x.place(0, 0) : 61 + 59 - x.place(1, 0);
        return round + 121;
    }

    private static void answersWhatWentOut() {
        BeltLanes x = new BeltLanes(8);
        for (int belt = 0; belt < 4; belt++) {
            x.lead(belt, BeltLanes.OPEN);
            x.put(belt, belt);
        }
        x.tick(4);
        x.put(0, 1);
        Checks.same("ticks before the end", x.tick(4), 0);
        Checks.same("out", x.out(), 0);
        Checks.same("tick that lets four out", x.tick(1), 4);
        Checks.same("ticks before the next", x.tick(3), 0);
        Checks.same("tick that lets one out", x.tick(1), 1);
        Checks.same("out in all", x.out(), 5);
        Checks.same("nothing is left", x.tick(200), 0);
    }

    private static void movesItemsInOrder() {
        BeltLanes x = new BeltLanes(20);
        for (int kind = 0; kind < 3; kind++) {
            x.put(0, kind);
            x.tick(4);
        }
        Checks.same("items 4 apart move as one", Checks.belt(x, 0), "8:0 12:1 16:2");
        x.tick(1);
        Checks.same("items 4 apart move as one", Checks.belt(x, 0), "7:0 11:1 15:2");
        x.tick(6);
        x.put(0, 3);
        Checks.same("before the row halts", Checks.belt(x, 0), "1:0 5:1 9:2 20:3");
        x.tick(1);
        Checks.same("the row has come to its end", Checks.belt(x, 0), "0:0 4:1 8:2 19:3");
        x.tick(1);
        Checks.same("the row halts, the last goes on", Checks.belt(x, 0), "0:0 4:1 8:2 18:3");
        x.tick(6);
        Checks.same("the last has come up", Checks.belt(x, 0), "0:0 4:1 8:2 12:3");
        x.tick(1);
        Checks.same("the last halts 4 behind", Checks.belt(x, 0), "0:0 4:1 8:2 12:3");
        x.take(0);
        x.tick(1);
        Checks.same("the row moves on at once", Checks.belt(x, 0), "3:1 7:2 11:3");
    }

    private static void stopsAtTheEnd() {
        BeltLanes x = new BeltLanes(9);
        x.put(2, 2);
        x.tick(9);
        Checks.same("at the end", Checks.belt(x, 2), "0:2");
        Checks.same("a closed end", x.tick(10), 0);
        Checks.same("still at the end", Checks.belt(x, 2), "0:2");
    }

    private static void goesOutBeforeMoving() {
        BeltLanes x = new BeltLanes(8);
        x.put(0, 1);
        x.tick(4);
        x.put(0, 2);
        x.tick(4);
        x.lead(0, BeltLanes.OPEN);
        Checks.same("before", Checks.belt(x, 0), "0:1 4:2");
        Checks.same("tick", x.tick(1), 1);
        Checks.same("the next one moves in the same tick", Checks.belt(x, 0), "3:2");
        Checks.same("ticks to the end", x.tick(3), 0);
        Checks.same("at place 0 it waits for the next tick", Checks.belt(x, 0), "0:2");
        Checks.same("tick", x.tick(1), 1);
    }

    private static void leadsToALaterBelt() {
        for (int belt = 0; belt < 3; belt++) {
            for (int to = belt + 1; to < 4; to++) {
                BeltLanes x = new BeltLanes(12);
                x.lead(belt, to);
                x.put(belt, 6);
                x.tick(13);
                Checks.same("left behind", Checks.belt(x, belt), "");
                Checks.same("moved in the later belt's turn", Checks.belt(x, to), "11:6");
                Checks.same("out", x.out(), 0);
            }
        }
    }

    private static void leadsToAnEarlierBelt() {
        for (int belt = 1; belt < 4; belt++) {
            for (int to = 0; to < belt; to++) {
                BeltLanes x = new BeltLanes(12);
                x.lead(belt, to);
                x.put(belt, 6);
                x.tick(13);
                Checks.same("left behind", Checks.belt(x, belt), "");
                Checks.same("after the earlier belt's turn", Checks.belt(x, to), "12:6");
            }
        }
    }

    private static void waitsForRoomOnTheNextBelt() {
        BeltLanes x = new BeltLanes(8);
        for (int kind = 1; kind < 4; kind++) {
            x.put(1, kind);
            x.tick(8);
        }
        x.lead(0, 1);
        x.put(0, 7);
        x.tick(20);
        Checks.same("waits", Checks.belt(x, 0), "0:7");
        Checks.same("full", Checks.belt(x, 1), "0:1 4:2 8:3");
        x.take(1);
        x.tick(4);
        Checks.same("waits until the last is at 4", Checks.belt(x, 0), "0:7");
        Checks.same("the last is at 4", Checks.belt(x, 1), "0:2 4:3");
        x.tick(1);
        Checks.same("gone", Checks.belt(x, 0), "");
        Checks.same("arrived", Checks.belt(x, 1), "0:2 4:3 8:7");
    }

    /** Belt 1 has room for belt 2 after its turn in the same tick, for belt 0 a tick later. */
    private static void findsRoomAsTheNextBeltIsThen() {
        BeltLanes x = new BeltLanes(8);
        x.lead(0, 1);
        x.put(0, 7);
        x.tick(5);
        x.put(1, 1);
        x.tick(3);
        Checks.same("last of belt 1", Checks.belt(x, 1), "5:1");
        x.tick(1);
        Checks.same("belt 0 looked before belt 1 moved", Checks.belt(x, 0), "0:7");
        x.tick(1);
        Checks.same("belt 0 goes a tick later", Checks.belt(x, 1), "3:1 7:7");

        BeltLanes y = new BeltLanes(8);
        y.lead(2, 1);
        y.put(2, 7);
        y.tick(5);
        y.put(1, 1);
        y.tick(3);
        Checks.same("last of belt 1", Checks.belt(y, 1), "5:1");
        y.tick(1);
        Checks.same("belt 2 looked after belt 1 moved", Checks.belt(y, 1), "4:1 8:7");
    }

    private static void worksArmsAfterBelts() {
        BeltLanes x = new BeltLanes(8);
        x.arm(0, 12, 4, 255);
        x.put(0, 1);
        x.tick(1);
        Checks.same("taken at 7, after the belt's turn", x.held(0), 1);
        x.tick(1);
        Checks.same("put at the length, after the belt's turn", Checks.belt(x, 3), "8:1");

        BeltLanes y = new BeltLanes(8);
        y.lead(0, BeltLanes.OPEN);
        y.arm(0, 4, 0, 2);
        y.put(0, 2);
        y.tick(8);
        y.arm(0, 4, 0, 255);
        Checks.same("out before the arm's turn", y.tick(1), 1);
        Checks.same("held", y.held(0), BeltLanes.NOTHING);
    }

    private static void putsAndTakesInTicksOfTheirOwn() {
        BeltLanes x = new BeltLanes(12);
        x.put(0, 1);
        x.tick(4);
        x.put(0, 2);
        x.tick(4);
        x.arm(0, 4, 3, 255);
        Checks.same("before", Checks.belt(x, 0), "4:1 8:2");
        x.tick(1);
        Checks.same("takes", x.held(0), 1);
        Checks.same("does not put in the same tick", x.items(1), 0);
        x.tick(1);
        Checks.same("puts, and takes nothing in that tick", x.held(0), BeltLanes.NOTHING);
        Checks.same("the next is in reach", Checks.belt(x, 0), "6:2");
        x.tick(1);
        Checks.same("takes again a tick later", x.held(0), 2);
    }

    private static void holdsUntilThereIsRoom() {
        BeltLanes x = new BeltLanes(8);
        x.arm(0, 4, 5, 255);
        x.put(0, 1);
        x.tick(1);
        x.put(1, 6);
        x.put(0, 2);
        x.tick(3);
        Checks.same("holds while the last is at 5", x.held(0), 1);
        Checks.same("takes no other", Checks.belt(x, 0), "5:2");
        x.tick(1);
        Checks.same("puts when the last is at 4", Checks.belt(x, 1), "4:6 8:1");
        Checks.same("held", x.held(0), BeltLanes.NOTHING);
    }

    private static void reachesFourPlaces() {
        for (int place = 0; place <= 11; place++) {
            for (int reach = 0; reach <= 16; reach++) {
                BeltLanes x = new BeltLanes(12);
                x.put(2, 5);
                x.tick(11 - place);
                x.arm(1, 2, reach, 255);
                x.tick(1);
                boolean inReach = reach <= place && place <= reach + 3;
                Checks.same("item at " + place + ", reach " + reach, x.held(1), inReach ? 5 : BeltLanes.NOTHING);
            }
        }
        takesAtTheStart();
    }

    /** Belt 1 leads back to belt 0, so its item is at the full length when the arm's turn comes. */
    private static void takesAtTheStart() {
        for (int reach = 56; reach <= 60; reach++) {
            BeltLanes x = new BeltLanes(60);
            x.lead(1, 0);
            x.put(1, 5);
            x.tick(60);
            x.arm(0, 8, reach, 255);
            x.tick(1);
            Checks.same("item at 60, reach " + reach, x.held(0), reach == 56 ? BeltLanes.NOTHING : 5);
            Checks.same("items", x.items(0), reach == 56 ? 1 : 0);
        }
    }

    private static void passesOverOtherKinds() {
        BeltLanes x = new BeltLanes(20);
        for (int kind = 1; kind < 4; kind++) {
            x.put(0, kind);
            x.tick(4);
        }
        x.arm(0, 4, 7, 4 + 8);
        Checks.same("before", Checks.belt(x, 0), "8:1 12:2 16:3");
        x.tick(1);
        Checks.same("kind 1 is in reach but not taken", x.held(0), BeltLanes.NOTHING);
        x.tick(1);
        Checks.same("kind 2 is taken when it comes", x.held(0), 2);
        Checks.same("the others stay", Checks.belt(x, 0), "6:1 14:3");
    }

    private static void worksArmZeroFirst() {
        BeltLanes x = new BeltLanes(8);
        x.arm(1, 4, 4, 255);
        x.arm(0, 8, 4, 255);
        x.put(0, 3);
        x.tick(1);
        Checks.same("arm 0 takes", x.held(0), 3);
        Checks.same("arm 1 comes too late", x.held(1), BeltLanes.NOTHING);

        BeltLanes y = new BeltLanes(8);
        y.arm(0, 8, 7, 255);
        y.arm(1, 9, 7, 255);
        y.put(0, 3);
        y.put(1, 4);
        y.tick(1);
        Checks.same("both hold", y.held(0) * 10 + y.held(1), 34);
        y.tick(1);
        Checks.same("arm 0 puts, arm 1 finds no room", Checks.belt(y, 2), "8:3");
        Checks.same("arm 1 holds", y.held(1), 4);

        BeltLanes z = new BeltLanes(8);
        z.arm(0, 4, 7, 255);
        z.arm(1, 13, 8, 255);
        z.put(0, 3);
        z.tick(2);
        Checks.same("arm 1 takes what arm 0 put in the same tick", z.held(1), 3);
        Checks.same("arm 0 is empty", z.held(0), BeltLanes.NOTHING);
    }

    private static void carriesOnOneBelt() {
        BeltLanes x = new BeltLanes(10);
        x.arm(0, 0, 2, 255);
        x.put(0, 1);
        x.tick(5);
        Checks.same("taken at 5", x.held(0), 1);
        x.tick(1);
        Checks.same("put back at the start", Checks.belt(x, 0), "10:1");
    }

    private static void closesTheGapBehindATakenItem() {
        BeltLanes x = new BeltLanes(8);
        for (int kind = 1; kind < 4; kind++) {
            x.put(0, kind);
            x.tick(8);
        }
        x.arm(0, 4, 4, 255);
        x.tick(1);
        Checks.same("the middle one is taken", Checks.belt(x, 0), "0:1 8:3");
        Checks.same("one would move", x.moving(0), 1);
        x.arm(0, 4, 4, 0);
        x.tick(4);
        Checks.same("the one behind comes up", Checks.belt(x, 0), "0:1 4:3");
    }
}
