/** Promise 2, and the order of promise 14 for put. */
final class Promise02PutTest {
    public static void main(String[] args) {
        putsAtTheStart();
        needsRoom();
        fillsABelt(8, 3);
        fillsABelt(11, 3);
        fillsABelt(12, 4);
        fillsABelt(59, 15);
        fillsABelt(60, 16);
        refusesWrongInputs();
        testsInOrder();
        Checks.end();
    }

    private static void putsAtTheStart() {
        for (int belt = 0; belt < 4; belt++) {
            for (int kind = 0; kind < 8; kind++) {
                BeltLanes x = new BeltLanes(20);
                Checks.same("put", x.put(belt, kind), 1);
                for (int other = 0; other < 4; other++) {
                    Checks.same("belt " + other, Checks.belt(x, other), other == belt ? "20:" + kind : "");
                }
            }
        }
    }

    private static void needsRoom() {
        BeltLanes x = new BeltLanes(10);
        Checks.same("put on an empty belt", x.put(2, 7), 1);
        for (int place = 10; place > 6; place--) {
            String before = Checks.state(x);
            Checks.same("put with the last at " + place, x.put(2, 0), BeltLanes.NO_ROOM);
            Checks.same("state after NO_ROOM", Checks.state(x), before);
            x.tick(1);
        }
        Checks.same("put with the last at length less 4", x.put(2, 0), 2);
        Checks.same("belt", Checks.belt(x, 2), "6:7 10:0");
        Checks.same("put on another belt", x.put(3, 5), 1);
    }

    private static void fillsABelt(int length, int most) {
        BeltLanes x = new BeltLanes(length);
        for (int count = 1; count <= most; count++) {
            Checks.same("put number " + count, x.put(1, count % 8), count);
            x.tick(length);
        }
        Checks.same("put on a full belt", x.put(1, 0), BeltLanes.NO_ROOM);
        for (int i = 0; i < most; i++) {
            Checks.same("place on a full belt", x.place(1, i), 4 * i);
            Checks.same("kind on a full belt", x.kind(1, i), (i + 1) % 8);
        }
    }

    private static void refusesWrongInputs() {
        BeltLanes x = new BeltLanes(10);
        String before = Checks.state(x);
        for (int belt : new int[] {-1, 4, 5, Integer.MIN_VALUE, Integer.MAX_VALUE}) {
            Checks.same("put on belt " + belt, x.put(belt, 0), BeltLanes.BAD_BELT);
        }
        for (int kind : new int[] {-1, 8, 9, Integer.MIN_VALUE, Integer.MAX_VALUE}) {
            Checks.same("put of kind " + kind, x.put(0, kind), BeltLanes.BAD_KIND);
        }
        Checks.same("state after refused puts", Checks.state(x), before);
    }

    private static void testsInOrder() {
        BeltLanes x = new BeltLanes(10);
        x.put(0, 0);
        Checks.same("bad belt and bad kind", x.put(4, 8), BeltLanes.BAD_BELT);
        Checks.same("bad belt and bad kind", x.put(-1, -1), BeltLanes.BAD_BELT);
        Checks.same("bad kind and no room", x.put(0, 8), BeltLanes.BAD_KIND);
        Checks.same("bad kind and no room", x.put(0, -1), BeltLanes.BAD_KIND);
        Checks.same("no room", x.put(0, 0), BeltLanes.NO_ROOM);
    }
}
