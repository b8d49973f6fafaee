/** Promise 3: take. */
final class Promise03TakeTest {
    public static void main(String[] args) {
        takesAtPlaceZeroAlone();
        takesEveryKindFromEveryBelt();
        takesTheFirstAndKeepsTheRest();
        refusesWrongBelts();
        Checks.end();
    }

    private static void takesAtPlaceZeroAlone() {
        BeltLanes x = new BeltLanes(8);
        Checks.same("take from an empty belt", x.take(1), BeltLanes.NOTHING);
        x.put(1, 6);
        for (int place = 8; place > 0; place--) {
            String before = Checks.state(x);
            Checks.same("take with the first at " + place, x.take(1), BeltLanes.NOTHING);
            Checks.same("state after NOTHING", Checks.state(x), before);
            x.tick(1);
        }
        Checks.same("take with the first at 0", x.take(1), 6);
        Checks.same("items after take", x.items(1), 0);
        Checks.same("take does not count as out", x.out(), 0);
        Checks.same("take again", x.take(1), BeltLanes.NOTHING);
    }

    private static void takesEveryKindFromEveryBelt() {
        for (int belt = 0; belt < 4; belt++) {
            BeltLanes x = new BeltLanes(8);
            for (int kind = 0; kind < 8; kind++) {
                x.put(belt, kind);
                x.tick(8);
                for (int other = 0; other < 4; other++) {
                    if (other != belt) {
                        Checks.same("take from another belt", x.take(other), BeltLanes.NOTHING);
                    }
                }
                Checks.same("take", x.take(belt), kind);
            }
        }
    }

    private static void takesTheFirstAndKeepsTheRest() {
        BeltLanes x = new BeltLanes(8);
        for (int kind = 3; kind < 6; kind++) {
            x.put(0, kind);
            x.tick(8);
        }
        Checks.same("take", x.take(0), 3);
        Checks.same("belt after take", Checks.belt(x, 0), "4:4 8:5");
        Checks.same("take before the next has come", x.take(0), BeltLanes.NOTHING);
        x.tick(4);
        Checks.same("take of the next", x.take(0), 4);
        Checks.same("belt after take", Checks.belt(x, 0), "4:5");
    }

    private static void refusesWrongBelts() {
        BeltLanes x = new BeltLanes(8);
        for (int belt = 0; belt < 4; belt++) {
            x.put(belt, belt);
        }
        x.tick(8);
        String before = Checks.state(x);
        for (int belt : new int[] {-1, 4, Integer.MIN_VALUE, Integer.MAX_VALUE}) {
            Checks.same("take from belt " + belt, x.take(belt), BeltLanes.BAD_BELT);
        }
        Checks.same("state after refused takes", Checks.state(x), before);
    }
}
