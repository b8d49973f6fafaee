/** Promises 7 to 10: items, place, kind and out, which change nothing and test BAD_BELT first. */
final class Promise07To10LookingTest {
    private static final int[] BAD_BELTS = {-1, 4, 5, Integer.MIN_VALUE, Integer.MAX_VALUE};
    private static final int[] BAD_ITEMS = {-1, -4, 3, 4, 60, Integer.MIN_VALUE, Integer.MAX_VALUE};

    public static void main(String[] args) {
        looksAtEveryBelt();
        answersNothing();
        refusesWrongBelts();
        changesNothing();
        countsWhatWentOut();
        Checks.end();
    }

    private static BeltLanes threeOnEachBelt() {
        BeltLanes x = new BeltLanes(30);
        for (int i = 0; i < 3; i++) {
            for (int belt = 0; belt < 4; belt++) {
                x.put(belt, (belt + 2 * i) % 8);
            }
            x.tick(5);
        }
        return x;
    }

    private static void looksAtEveryBelt() {
        BeltLanes x = threeOnEachBelt();
        for (int belt = 0; belt < 4; belt++) {
            Checks.same("items", x.items(belt), 3);
            for (int i = 0; i < 3; i++) {
                Checks.same("place", x.place(belt, i), 15 + 5 * i);
                Checks.same("kind", x.kind(belt, i), (belt + 2 * i) % 8);
            }
        }
        x.tick(15);
        x.take(1);
        Checks.same("items after take", x.items(1), 2);
        Checks.same("the next one is the first now", x.place(1, 0), 5);
        Checks.same("the next one is the first now", x.kind(1, 0), 3);
    }

    private static void answersNothing() {
        BeltLanes x = threeOnEachBelt();
        BeltLanes empty = new BeltLanes(30);
        for (int belt = 0; belt < 4; belt++) {
            for (int i : BAD_ITEMS) {
                Checks.same("place " + i, x.place(belt, i), BeltLanes.NOTHING);
                Checks.same("kind " + i, x.kind(belt, i), BeltLanes.NOTHING);
            }
            Checks.same("place on an empty belt", empty.place(belt, 0), BeltLanes.NOTHING);
            Checks.same("kind on an empty belt", empty.kind(belt, 0), BeltLanes.NOTHING);
            Checks.same("items of an empty belt", empty.items(belt), 0);
        }
    }

    private static void refusesWrongBelts() {
        BeltLanes x = threeOnEachBelt();
        for (int belt : BAD_BELTS) {
            Checks.same("items of belt " + belt, x.items(belt), BeltLanes.BAD_BELT);
            Checks.same("place on belt " + belt, x.place(belt, 0), BeltLanes.BAD_BELT);
            Checks.same("kind on belt " + belt, x.kind(belt, 0), BeltLanes.BAD_BELT);
            for (int i : BAD_ITEMS) {
                Checks.same("place, bad belt first", x.place(belt, i), BeltLanes.BAD_BELT);
                Checks.same("kind, bad belt first", x.kind(belt, i), BeltLanes.BAD_BELT);
            }
        }
    }

    private static void changesNothing() {
        BeltLanes x = threeOnEachBelt();
        x.arm(0, 4, 12, 255);
        x.tick(1);
        String before = Checks.state(x);
        Checks.same("state", Checks.state(x), before);
        Checks.same("state", before.endsWith("out 0 held 0 -4"), true);
    }

    private static void countsWhatWentOut() {
        BeltLanes x = threeOnEachBelt();
        Checks.same("out", x.out(), 0);
        x.lead(3, BeltLanes.OPEN);
        x.lead(0, 3);
        x.tick(200);
        Checks.same("out of belts 0 and 3", x.out(), 6);
        x.take(1);
        Checks.same("take is not out", x.out(), 6);
        x.lead(1, BeltLanes.OPEN);
        Checks.same("ticks", x.tick(50), 2);
        Checks.same("out adds up", x.out(), 8);
    }
}
