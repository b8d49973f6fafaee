/** Promises 11 to 13: held, room and moving. */
final class Promise11To13LookingTest {
    private static final int[] BAD_BELTS = {-1, 4, 5, Integer.MIN_VALUE, Integer.MAX_VALUE};

    public static void main(String[] args) {
        tellsWhatIsHeld();
        tellsWhetherThereIsRoom(8);
        tellsWhetherThereIsRoom(60);
        looksAtTheLastItemForRoom();
        countsWhatWouldMove();
        countsAsIfTheEndWereClosed();
        Checks.end();
    }

    private static void tellsWhatIsHeld() {
        for (int arm : new int[] {-1, 2, 3, Integer.MIN_VALUE, Integer.MAX_VALUE}) {
            Checks.same("held by arm " + arm, new BeltLanes(8).held(arm), BeltLanes.BAD_NUMBER);
        }
        for (int arm = 0; arm < 2; arm++) {
            for (int kind = 0; kind < 8; kind++) {
                BeltLanes x = new BeltLanes(8);
                Checks.same("held by an arm not set", x.held(arm), BeltLanes.NOTHING);
                x.arm(arm, 4, 7, 255);
                Checks.same("held by an empty arm", x.held(arm), BeltLanes.NOTHING);
                x.put(0, kind);
                x.tick(1);
                Checks.same("held", x.held(arm), kind);
                Checks.same("held, asked again", x.held(arm), kind);
                Checks.same("held by the other arm", x.held(1 - arm), BeltLanes.NOTHING);
                x.tick(1);
                Checks.same("held after putting", x.held(arm), BeltLanes.NOTHING);
            }
        }
    }

    private static void tellsWhetherThereIsRoom(int length) {
        for (int belt = 0; belt < 4; belt++) {
            BeltLanes x = new BeltLanes(length);
            Checks.same("room on an empty belt", x.room(belt), true);
            x.put(belt, 1);
            for (int ticks = 0; ticks <= length; ticks++) {
                Checks.same("room, the last at " + (length - ticks), x.room(belt), ticks >= 4);
                Checks.same("room on another belt", x.room((belt + 1) % 4), true);
                x.tick(1);
            }
        }
        for (int belt : BAD_BELTS) {
            Checks.same("room on belt " + belt, new BeltLanes(length).room(belt), false);
        }
    }

    private static void looksAtTheLastItemForRoom() {
        BeltLanes x = new BeltLanes(8);
        x.put(0, 1);
        x.tick(8);
        x.put(0, 2);
        Checks.same("room, the last at the start", x.room(0), false);
        x.tick(3);
        Checks.same("room, the last at 5", x.room(0), false);
        x.tick(1);
        Checks.same("room, the last at 4", x.room(0), true);
    }

    private static void countsWhatWouldMove() {
        for (int belt : BAD_BELTS) {
            Checks.same("moving on belt " + belt, new BeltLanes(8).moving(belt), BeltLanes.BAD_BELT);
        }
        for (int belt = 0; belt < 4; belt++) {
            BeltLanes x = new BeltLanes(20);
            Checks.same("moving on an empty belt", x.moving(belt), 0);
            for (int kind = 0; kind < 3; kind++) {
                x.put(belt, kind);
                Checks.same("moving with " + (kind + 1), x.moving(belt), kind + 1);
                x.tick(4);
            }
            Checks.same("a row 4 apart moves as one", x.moving(belt), 3);
            Checks.same("moving on another belt", x.moving((belt + 1) % 4), 0);
            x.tick(7);
            Checks.same("the first at 1", x.moving(belt), 3);
            x.put(belt, 3);
            x.tick(1);
            Checks.same("0, 4 and 8 stay, 19 moves", x.moving(belt), 1);
            x.tick(6);
            Checks.same("13 moves", x.moving(belt), 1);
            x.tick(1);
            Checks.same("all stay", x.moving(belt), 0);
            Checks.same("the row", Checks.belt(x, belt), "0:0 4:1 8:2 12:3");
            x.take(belt);
            Checks.same("all move after a take", x.moving(belt), 3);
        }
    }

    private static void countsAsIfTheEndWereClosed() {
        for (int to : new int[] {BeltLanes.OPEN, 1}) {
            BeltLanes x = new BeltLanes(8);
            x.put(0, 1);
            x.tick(4);
            x.put(0, 2);
            x.tick(4);
            x.lead(0, to);
            Checks.same("0 and 4 would stay", x.moving(0), 0);
            Checks.same("still there", Checks.belt(x, 0), "0:1 4:2");
            x.tick(1);
            Checks.same("the end was not closed", Checks.belt(x, 0), "3:2");
        }
    }
}
