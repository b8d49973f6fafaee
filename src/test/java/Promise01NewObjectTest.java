/** Promise 1: the length is clamped into 8 to 60, belts are empty and closed, no arm is set. */
final class Promise01NewObjectTest {
    public static void main(String[] args) {
        int[][] lengths = {
            {8, 8}, {9, 9}, {33, 33}, {59, 59}, {60, 60},
            {7, 8}, {0, 8}, {-1, 8}, {-60, 8}, {Integer.MIN_VALUE, 8},
            {61, 60}, {1000, 60}, {Integer.MAX_VALUE, 60},
        };
        for (int[] pair : lengths) {
            hasLength(pair[0], pair[1]);
            isEmptyAndClosed(pair[0]);
            hasNoArmSet(pair[0]);
        }
        Checks.end();
    }

    private static void hasLength(int asked, int due) {
        BeltLanes x = new BeltLanes(asked);
        for (int belt = 0; belt < 4; belt++) {
            x.put(belt, 1);
            Checks.same("length of belt " + belt + " for " + asked, x.place(belt, 0), due);
        }
    }

    private static void isEmptyAndClosed(int length) {
        BeltLanes x = new BeltLanes(length);
        Checks.same("out of a new object", x.out(), 0);
        for (int belt = 0; belt < 4; belt++) {
            Checks.same("items of a new belt", x.items(belt), 0);
            Checks.same("room on a new belt", x.room(belt), true);
            Checks.same("moving on a new belt", x.moving(belt), 0);
            x.put(belt, belt);
        }
        Checks.same("tick with closed ends", x.tick(100), 0);
        for (int belt = 0; belt < 4; belt++) {
            Checks.same("belt with a closed end", Checks.belt(x, belt), "0:" + belt);
            Checks.same("where a new belt leads", x.lead(belt, BeltLanes.OPEN), BeltLanes.CLOSED);
        }
    }

    /** Every kind passes the whole of a belt, so that an arm that came set would take one. */
    private static void hasNoArmSet(int length) {
        BeltLanes x = new BeltLanes(length);
        for (int kind = 0; kind < 8; kind++) {
            x.put(kind % 4, kind);
            x.tick(61);
            Checks.same("held(0) of an arm not set", x.held(0), BeltLanes.NOTHING);
            Checks.same("held(1) of an arm not set", x.held(1), BeltLanes.NOTHING);
            Checks.same("take, no arm being set", x.take(kind % 4), kind);
        }
    }
}
