/** Promises 1 to 5: what the calls do at their bounds where they are not refused. */
final class CallBoundsTest {
    private static final int[] LENGTHS = {8, 9, 11, 12, 59, 60};

    public static void main(String[] args) {
        clampsTheLength();
        aNewArmTakesNothing();
        for (int length : LENGTHS) {
            putCountsUpToAFullBelt(length);
            takeEmptiesAFullBelt(length);
            takeByThePlaceOfTheFirst(length);
        }
        leadAnswersWhereItLedBefore();
        leadToTheSameAgain();
        armLooksAtNoOtherBitOfBelts();
        armLooksAtNoOtherBitOfKinds();
        armAtTheBoundsOfReach();
        anEmptyArmSetAnewIsEmpty();
        anArmSetAnewKeepsItsItem();
        lastsForAllItsCalls();
        Checks.end();
    }

    /** "clamped into 8 to 60": as many items as fit, and the place of the one that is put on. */
    private static void clampsTheLength() {
        for (int length = -3; length <= 70; length++) {
            int due = length < 8 ? 8 : length > 60 ? 60 : length;
            BeltLanes x = new BeltLanes(length);
            for (int belt = 0; belt < 4; belt++) {
                x.put(belt, 2);
                Checks.same("place for length " + length, x.place(belt, 0), due);
            }
        }
        Checks.same("the least int", lengthOf(Integer.MIN_VALUE), 8);
        Checks.same("the greatest int", lengthOf(Integer.MAX_VALUE), 60);
    }

    private static int lengthOf(int asked) {
        BeltLanes x = new BeltLanes(asked);
        x.put(0, 0);
        return x.place(0, 0);
    }

    /** "no arm is set": each kind lies still at each place of a full belt. */
    private static void aNewArmTakesNothing() {
        for (int kind = 0; kind < 8; kind++) {
            String full = Scenes.fullOf(8, kind);
            BeltLanes x = Scenes.belts(8, full, full, full, full);
            x.tick(5);
            Checks.belts("no arm is set", x, full, full, full, full);
            Checks.same("held(0)", x.held(0), BeltLanes.NOTHING);
            Checks.same("held(1)", x.held(1), BeltLanes.NOTHING);
        }
    }

    /** "Else answers how many items the belt has": from 1 to the most that it can carry. */
    private static void putCountsUpToAFullBelt(int length) {
        BeltLanes x = new BeltLanes(length);
        int most = length / 4 + 1;
        for (int count = 1; count <= most; count++) {
            Checks.same("put number " + count, x.put(3, 7), count);
            Checks.same("place of number " + count, x.place(3, count - 1), length);
            x.tick(length);
        }
        Checks.same("put on a full belt", x.put(3, 7), BeltLanes.NO_ROOM);
        Checks.same("items of a full belt", x.items(3), most);
        Checks.same("put on an empty belt", x.put(2, 7), 1);
    }

    private static void takeEmptiesAFullBelt(int length) {
        BeltLanes x = Scenes.oneBelt(length, 0, Scenes.fullOf(length, 6));
        for (int left = length / 4; left >= 0; left--) {
            Checks.same("take", x.take(0), 6);
            Checks.same("items left", x.items(0), left);
            Checks.same("take at once again", x.take(0), BeltLanes.NOTHING);
            Checks.same("items left", x.items(0), left);
            x.tick(4);
        }
        Checks.same("take from an empty belt", x.take(0), BeltLanes.NOTHING);
    }

    /** "Takes the first item of a belt if it is at place 0." */
    private static void takeByThePlaceOfTheFirst(int length) {
        for (int place = 0; place <= length; place++) {
            BeltLanes x = Scenes.oneBelt(length, 2, place + ":0");
            Checks.same("take, the first at " + place, x.take(2), place == 0 ? 0 : BeltLanes.NOTHING);
            Checks.same("belt, the first was at " + place, Checks.belt(x, 2), place == 0 ? "" : place + ":0");
        }
    }

    /** From each of the six ends to each other. */
    private static void leadAnswersWhereItLedBefore() {
        for (int belt = 0; belt < 4; belt++) {
            for (int before = -2; before <= 3; before++) {
                for (int to = -2; to <= 3; to++) {
                    if (before != belt && to != belt) {
                        BeltLanes x = new BeltLanes(8);
                        Checks.same("lead at first", x.lead(belt, before), BeltLanes.CLOSED);
                        Checks.same("lead from " + before, x.lead(belt, to), before);
                        Checks.same("lead from " + to, x.lead(belt, BeltLanes.CLOSED), to);
                        Checks.same("lead of another", x.lead((belt + 1) % 4, -2), BeltLanes.CLOSED);
                    }
                }
            }
        }
    }

    private static void leadToTheSameAgain() {
        BeltLanes x = Scenes.oneBelt(8, 1, "0:3");
        x.lead(1, BeltLanes.OPEN);
        Checks.same("lead", x.lead(1, BeltLanes.OPEN), BeltLanes.OPEN);
        Checks.same("tick", x.tick(1), 1);
    }

    /** "other bits are not looked at": bit 4 and each one above, on top of each pair of belts. */
    private static void armLooksAtNoOtherBitOfBelts() {
        for (int belts = 0; belts < 16; belts++) {
            for (int bit = 3; bit < 32; bit++) {
                int others = bit == 3 ? -16 : 1 << bit;
                BeltLanes x = Scenes.belts(8, "0:0", "0:1", "0:2", "0:3");
                Checks.same("arm", x.arm(0, belts | others, 0, 255), 0);
                x.tick(1);
                Checks.same("taken from, belts " + (belts | others), x.held(0), belts & 3);
                x.tick(1);
                int to = belts >> 2;
                Checks.same("put on, belts " + (belts | others), x.place(to, x.items(to) - 1), 8);
            }
        }
    }

    /** "bit k for kind k; other bits are not looked at": bit 8 and each one above. */
    private static void armLooksAtNoOtherBitOfKinds() {
        for (int kind = 0; kind < 8; kind++) {
            for (int bit = 0; bit < 32; bit++) {
                boolean takes = bit == kind;
                Checks.same("kind " + kind + ", bit " + bit, takenOf(kind, 1 << bit), takes ? kind : BeltLanes.NOTHING);
                int allButOne = ~(1 << bit);
                Checks.same("kind " + kind + ", all but " + bit, takenOf(kind, allButOne), takes ? BeltLanes.NOTHING : kind);
            }
        }
    }

    private static int takenOf(int kind, int kinds) {
        BeltLanes x = Scenes.oneBelt(8, 0, "0:" + kind);
        x.arm(0, 4, 0, kinds);
        x.tick(1);
        return x.held(0);
    }

    /** Reach 0 sees places 0 to 3; reach 60 sees place 60 alone, which only the longest belt has. */
    private static void armAtTheBoundsOfReach() {
        for (int length : LENGTHS) {
            String full = Scenes.fullOf(length, 1);
            BeltLanes x = Scenes.oneBelt(length, 0, full);
            Checks.same("arm with reach 60", x.arm(0, 4, 60, 255), 0);
            x.tick(1);
            Checks.same("reach 60 on length " + length, x.held(0), length == 60 ? 1 : BeltLanes.NOTHING);
            BeltLanes y = Scenes.oneBelt(length, 0, full);
            Checks.same("arm with reach 0", y.arm(0, 4, 0, 255), 0);
            y.tick(1);
            Checks.same("reach 0", y.held(0), 1);
            Checks.same("the first is gone", y.place(0, 0), 4);
        }
    }

    private static void anEmptyArmSetAnewIsEmpty() {
        for (int arm = 0; arm < 2; arm++) {
            BeltLanes x = new BeltLanes(8);
            Checks.same("arm", x.arm(arm, 4, 0, 255), 0);
            Checks.same("arm set anew", x.arm(arm, 4, 0, 255), 0);
            Checks.same("held", x.held(arm), BeltLanes.NOTHING);
        }
    }

    /** "It keeps what it holds", though it is of a kind that the arm takes no more. */
    private static void anArmSetAnewKeepsItsItem() {
        for (int arm = 0; arm < 2; arm++) {
            for (int kind = 0; kind < 8; kind++) {
                BeltLanes x = Scenes.oneBelt(8, 0, "0:" + kind);
                x.arm(arm, 4, 0, 255);
                x.tick(1);
                Checks.same("arm set anew", x.arm(arm, 2 | (3 << 2), 60, 0), 0);
                Checks.same("held", x.held(arm), kind);
                Checks.same("held by the other", x.held(1 - arm), BeltLanes.NOTHING);
                Checks.same("arm refused", x.arm(arm, 0, 61, 255), BeltLanes.BAD_NUMBER);
                Checks.same("held", x.held(arm), kind);
                x.tick(1);
                Checks.belts("put as it is set now", x, "", "", "", "8:" + kind);
                Checks.same("held after putting", x.held(arm), BeltLanes.NOTHING);
            }
        }
    }

    /** "at most 512 calls": the last of them answer as the first ones did. */
    private static void lastsForAllItsCalls() {
        BeltLanes x = new BeltLanes(60);
        Checks.same("call 1", x.lead(0, BeltLanes.OPEN), BeltLanes.CLOSED);
        for (int call = 2; call < 512; call += 2) {
            Checks.same("call " + call, x.put(0, call % 8), 1);
            Checks.same("call " + (call + 1), x.tick(Integer.MAX_VALUE), 1);
        }
        Checks.same("call 512", x.out(), 255);
    }
}
