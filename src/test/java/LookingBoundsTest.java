/** Promises 7 to 13 and the sentence ahead of promise 1: empty and full belts and arms, wrong inputs. */
final class LookingBoundsTest {
    private static final int[] LENGTHS = {8, 9, 11, 12, 59, 60};
    private static final int[] ODD = {-5, -4, -1, 0, 1, 2, 3, 4, 15, 16, 60, Integer.MIN_VALUE, Integer.MAX_VALUE};
    private static final int[] WRONG_BELTS = {-1, 4, Integer.MIN_VALUE, Integer.MAX_VALUE};

    private interface Look {
        void at(BeltLanes x);
    }

    public static void main(String[] args) {
        for (int length : LENGTHS) {
            looksAtAnEmptyBelt(length);
            looksAtAFullBelt(length);
            movingByThePlaceOfOne(length);
            movingByTheGapBehindOneAtTheEnd(length);
        }
        looksAtABeltThatIsEmptyAgain();
        badBeltFirst();
        lookingChangesNothing();
        countsOnlyWhatWentOut();
        holdsTheLeastAndTheGreatestKind();
        movingTakesTheEndAsClosed();
        movingCountsNothingThatComes();
        movingIsWhatMoves();
        Checks.end();
    }

    private static void looksAtAnEmptyBelt(int length) {
        BeltLanes x = new BeltLanes(length);
        for (int belt = 0; belt < 4; belt++) {
            Checks.same("items, empty", x.items(belt), 0);
            Checks.same("room, empty", x.room(belt), true);
            Checks.same("moving, empty", x.moving(belt), 0);
            for (int i : ODD) {
                Checks.same("place " + i + ", empty", x.place(belt, i), BeltLanes.NOTHING);
                Checks.same("kind " + i + ", empty", x.kind(belt, i), BeltLanes.NOTHING);
            }
        }
    }

    /** "item number i, from 0 for the first; NOTHING if there is none": -1, 0, the last and one more. */
    private static void looksAtAFullBelt(int length) {
        int most = length / 4 + 1;
        for (int belt = 0; belt < 4; belt++) {
            BeltLanes x = Scenes.oneBelt(length, belt, Scenes.fullOf(length, belt * 2));
            Checks.same("items, full", x.items(belt), most);
            Checks.same("room, full", x.room(belt), false);
            Checks.same("moving, full", x.moving(belt), 0);
            for (int i = -2; i <= most + 2; i++) {
                boolean is = i >= 0 && i < most;
                Checks.same("place " + i + " of " + most, x.place(belt, i), is ? 4 * i : BeltLanes.NOTHING);
                Checks.same("kind " + i + " of " + most, x.kind(belt, i), is ? belt * 2 : BeltLanes.NOTHING);
            }
        }
    }

    private static void looksAtABeltThatIsEmptyAgain() {
        BeltLanes x = Scenes.belts(8, "0:1", "0:2", "0:3", "");
        x.take(0);
        x.lead(1, BeltLanes.OPEN);
        x.arm(0, 2 | (2 << 2), 0, 255);
        x.tick(1);
        for (int belt = 0; belt < 3; belt++) {
            Checks.same("items, empty again", x.items(belt), 0);
            Checks.same("place, empty again", x.place(belt, 0), BeltLanes.NOTHING);
            Checks.same("kind, empty again", x.kind(belt, 0), BeltLanes.NOTHING);
            Checks.same("room, empty again", x.room(belt), true);
            Checks.same("moving, empty again", x.moving(belt), 0);
        }
    }

    /** "BAD_BELT first": before NOTHING, for any i; room answers false (promise 12). */
    private static void badBeltFirst() {
        for (int scene = 0; scene < Scenes.COUNT; scene++) {
            BeltLanes x = Scenes.make(scene);
            for (int belt : WRONG_BELTS) {
                Checks.same("items(" + belt + ")", x.items(belt), BeltLanes.BAD_BELT);
                Checks.same("moving(" + belt + ")", x.moving(belt), BeltLanes.BAD_BELT);
                Checks.same("room(" + belt + ")", x.room(belt), false);
                for (int i : ODD) {
                    Checks.same("place(" + belt + ", " + i + ")", x.place(belt, i), BeltLanes.BAD_BELT);
                    Checks.same("kind(" + belt + ", " + i + ")", x.kind(belt, i), BeltLanes.BAD_BELT);
                }
            }
        }
    }

    /** "The calls below change nothing": each on its own, with right and wrong inputs. */
    private static void lookingChangesNothing() {
        for (int scene = 0; scene < Scenes.COUNT; scene++) {
            for (int number : ODD) {
                changesNothing("items", scene, x -> x.items(number));
                changesNothing("held", scene, x -> x.held(number));
                changesNothing("room", scene, x -> x.room(number));
                changesNothing("moving", scene, x -> x.moving(number));
                for (int i : ODD) {
                    changesNothing("place", scene, x -> x.place(number, i));
                    changesNothing("kind", scene, x -> x.kind(number, i));
                }
            }
            changesNothing("out", scene, x -> x.out());
        }
    }

    private static void changesNothing(String what, int scene, Look look) {
        BeltLanes x = Scenes.make(scene);
        BeltLanes twin = Scenes.make(scene);
        look.at(x);
        look.at(x);
        Scenes.goOnAlike(what + " in scene " + scene, x, twin);
    }

    /** Promise 10: not what was taken, refused or led to a belt, nor what an arm takes or puts. */
    private static void countsOnlyWhatWentOut() {
        BeltLanes x = Scenes.belts(8, "0:1", "0:2", "0:3", "0:4");
        Checks.same("out at first", x.out(), 0);
        x.take(0);
        Checks.same("out after take", x.out(), 0);
        x.lead(1, 0);
        x.arm(0, 2 | (1 << 2), 0, 255);
        x.tick(1);
        Checks.belts("belts", x, "8:2", "", "", "0:4");
        Checks.same("held", x.held(0), 3);
        Checks.same("out after going on and into an arm", x.out(), 0);
        x.take(0);
        x.put(0, 8);
        Checks.same("out after refused calls", x.out(), 0);
        x.tick(1);
        Checks.belts("belts once the arm has put", x, "7:2", "8:3", "", "0:4");
        Checks.same("out after the arm has put", x.out(), 0);
        x.lead(3, BeltLanes.OPEN);
        Checks.same("out before the tick", x.out(), 0);
        x.tick(1);
        Checks.same("out after the tick", x.out(), 1);
        x.tick(0);
        Checks.same("out after no tick", x.out(), 1);
        x.lead(3, BeltLanes.CLOSED);
        Checks.same("out stays when the end is closed", x.out(), 1);
    }

    /** Promise 11: kind 0 in hand is not an empty hand. */
    private static void holdsTheLeastAndTheGreatestKind() {
        for (int kind : new int[] {0, 7}) {
            for (int arm = 0; arm < 2; arm++) {
                BeltLanes x = Scenes.oneBelt(8, 3, "0:" + kind);
                x.arm(arm, 3, 0, 255);
                Checks.same("held before the tick", x.held(arm), BeltLanes.NOTHING);
                x.tick(1);
                Checks.same("held", x.held(arm), kind);
                Checks.same("held by the other", x.held(1 - arm), BeltLanes.NOTHING);
                for (int wrong : new int[] {-1, 2, Integer.MIN_VALUE, Integer.MAX_VALUE}) {
                    Checks.same("held(" + wrong + ")", x.held(wrong), BeltLanes.BAD_NUMBER);
                }
                x.tick(1);
                Checks.same("held after putting", x.held(arm), BeltLanes.NOTHING);
                Checks.same("what was put", Checks.belt(x, 0), "8:" + kind);
            }
        }
    }

    private static void movingByThePlaceOfOne(int length) {
        for (int place = 0; place <= length; place++) {
            BeltLanes x = Scenes.oneBelt(length, 1, place + ":5");
            Checks.same("moving, one at " + place, x.moving(1), place == 0 ? 0 : 1);
        }
    }

    private static void movingByTheGapBehindOneAtTheEnd(int length) {
        for (int place = 4; place <= length; place++) {
            BeltLanes rests = Scenes.oneBelt(length, 2, "0:5 " + place + ":6");
            Checks.same("moving, 0 and " + place, rests.moving(2), place == 4 ? 0 : 1);
            if (place < length) {
                BeltLanes moves = Scenes.oneBelt(length, 2, "1:5 " + (place + 1) + ":6");
                Checks.same("moving, 1 and " + (place + 1), moves.moving(2), 2);
            }
        }
    }

    /** "if its end were closed" */
    private static void movingTakesTheEndAsClosed() {
        for (int belt = 0; belt < 4; belt++) {
            for (int to = -2; to <= 3; to++) {
                BeltLanes x = Scenes.oneBelt(12, belt, "0:1 4:2 9:3");
                x.lead(belt, to);
                Checks.same("moving, led to " + to, x.moving(belt), 1);
            }
        }
    }

    /** "nothing were taken from it or put on it before": belt 0 and the arm are about to put on belt 1. */
    private static void movingCountsNothingThatComes() {
        BeltLanes x = Scenes.belts(8, "0:1", "", "1:2", "");
        x.arm(0, 2 | (1 << 2), 0, 255);
        x.tick(1);
        x.lead(0, 1);
        Checks.same("held", x.held(0), 2);
        Checks.same("moving, with items to come", x.moving(1), 0);
        x.tick(1);
        Checks.same("what came", Checks.belt(x, 1), "7:1");
        Checks.same("moving, once it came", x.moving(1), 1);
        BeltLanes taken = Scenes.oneBelt(8, 0, "0:1 4:2");
        taken.arm(0, 4, 0, 255);
        Checks.same("moving, with an item to be taken", taken.moving(0), 0);
        taken.tick(1);
        Checks.same("moving, once it was taken", taken.moving(0), 1);
    }

    /** Rows of three, near and far: moving tells how many places the next tick changes. */
    private static void movingIsWhatMoves() {
        for (int first = 0; first <= 2; first++) {
            for (int second = first + 4; second <= first + 6; second++) {
                for (int third = second + 4; third <= second + 6; third++) {
                    BeltLanes x = Scenes.oneBelt(14, 3, first + ":1 " + second + ":2 " + third + ":3");
                    int moving = x.moving(3);
                    x.tick(1);
                    int moved = first + second + third - x.place(3, 0) - x.place(3, 1) - x.place(3, 2);
                    Checks.same("moving, " + first + " " + second + " " + third, moving, moved);
                }
            }
        }
    }
}
