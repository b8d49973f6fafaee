/** Promise 4, and the order of promise 14 for lead. */
final class Promise04LeadTest {
    public static void main(String[] args) {
        answersWhereItLed();
        refusesWrongInputs();
        testsInOrder();
        leadsItems();
        Checks.end();
    }

    private static void answersWhereItLed() {
        BeltLanes x = new BeltLanes(8);
        for (int belt = 0; belt < 4; belt++) {
            int led = BeltLanes.CLOSED;
            for (int to = -2; to <= 3; to++) {
                if (to != belt) {
                    Checks.same("lead(" + belt + ", " + to + ")", x.lead(belt, to), led);
                    Checks.same("lead again", x.lead(belt, to), to);
                    led = to;
                }
            }
        }
        Checks.same("belt 0 is led on its own", x.lead(0, 1), 3);
        Checks.same("belt 3 is led on its own", x.lead(3, 1), 2);
    }

    private static void refusesWrongInputs() {
        BeltLanes x = new BeltLanes(8);
        for (int belt = 0; belt < 4; belt++) {
            x.lead(belt, BeltLanes.OPEN);
            for (int to : new int[] {-3, 4, belt, Integer.MIN_VALUE, Integer.MAX_VALUE}) {
                Checks.same("lead(" + belt + ", " + to + ")", x.lead(belt, to), BeltLanes.BAD_NUMBER);
            }
            Checks.same("lead after refused ones", x.lead(belt, BeltLanes.OPEN), BeltLanes.OPEN);
        }
        for (int belt : new int[] {-2, -1, 4, Integer.MIN_VALUE, Integer.MAX_VALUE}) {
            Checks.same("lead of belt " + belt, x.lead(belt, 1), BeltLanes.BAD_BELT);
        }
        for (int belt = 0; belt < 4; belt++) {
            Checks.same("lead after bad belts", x.lead(belt, BeltLanes.CLOSED), BeltLanes.OPEN);
        }
    }

    private static void testsInOrder() {
        BeltLanes x = new BeltLanes(8);
        Checks.same("bad belt and bad number", x.lead(4, 4), BeltLanes.BAD_BELT);
        Checks.same("bad belt and bad number", x.lead(-1, -3), BeltLanes.BAD_BELT);
        Checks.same("bad belt leading to itself", x.lead(-1, -1), BeltLanes.BAD_BELT);
    }

    private static void leadsItems() {
        BeltLanes x = new BeltLanes(8);
        x.put(1, 5);
        x.lead(1, 3);
        x.tick(8);
        Checks.same("state changes by the tick alone", Checks.belt(x, 1), "0:5");
        x.lead(1, 2);
        x.tick(1);
        Checks.same("belt led to at last", Checks.belt(x, 2), "7:5");
        x.lead(2, BeltLanes.OPEN);
        x.tick(7);
        x.lead(2, BeltLanes.CLOSED);
        Checks.same("tick with the end closed again", x.tick(5), 0);
        x.lead(2, BeltLanes.OPEN);
        Checks.same("tick with the end open again", x.tick(1), 1);
    }
}
