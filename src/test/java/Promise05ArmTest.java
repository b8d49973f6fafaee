/** Promise 5: arm. */
final class Promise05ArmTest {
    public static void main(String[] args) {
        readsTheBelts();
        readsTheKinds();
        readsTheReach();
        keepsWhatItHolds();
        refusesWrongInputs();
        Checks.end();
    }

    /** Every pair of belts, with other bits that are not looked at. */
    private static void readsTheBelts() {
        for (int belts = 0; belts < 16; belts++) {
            for (int others : new int[] {0, 16, 0x7ffffff0, -16, Integer.MIN_VALUE}) {
                for (int arm = 0; arm < 2; arm++) {
                    carries(arm, belts, others);
                }
            }
        }
    }

    private static void carries(int arm, int belts, int others) {
        int from = belts % 4;
        int to = belts / 4;
        BeltLanes x = new BeltLanes(30);
        for (int belt = 0; belt < 4; belt++) {
            x.put(belt, belt);
        }
        x.tick(10);
        Checks.same("arm", x.arm(arm, belts | others, 19, 255), 0);
        x.tick(1);
        Checks.same("held of belts " + belts, x.held(arm), from);
        Checks.same("held of the other arm", x.held(1 - arm), BeltLanes.NOTHING);
        Checks.same("items taken from", x.items(from), 0);
        x.tick(1);
        int last = x.items(to) - 1;
        Checks.same("kind put on", x.kind(to, last), from);
        Checks.same("place put on", x.place(to, last), 30);
        Checks.same("held after putting", x.held(arm), BeltLanes.NOTHING);
    }

    private static void readsTheKinds() {
        for (int set : new int[] {0, 1, 2, 128, 170, 85, 255, -1, -256, 256, 0x7fffff00, Integer.MIN_VALUE}) {
            for (int kind = 0; kind < 8; kind++) {
                BeltLanes x = new BeltLanes(8);
                x.put(0, kind);
                x.arm(1, 4, 7, set);
                x.tick(1);
                boolean takes = (set & (1 << kind)) != 0;
                Checks.same("kind " + kind + " of set " + set, x.held(1), takes ? kind : BeltLanes.NOTHING);
            }
        }
    }

    private static void readsTheReach() {
        for (int reach = 0; reach <= 60; reach++) {
            BeltLanes x = new BeltLanes(60);
            Checks.same("arm with reach " + reach, x.arm(0, 4, reach, 255), 0);
            x.put(0, 3);
            // The item is at 60 less the ticks when the arm looks for it.
            int due = reach + 3 >= 59 ? 59 : reach + 3;
            int ticks = 60 - due;
            if (reach == 60) {
                x.tick(61);
                Checks.same("reach 60 after the item moved", x.held(0), BeltLanes.NOTHING);
            } else {
                x.tick(ticks - 1);
                Checks.same("one tick early, reach " + reach, x.held(0), BeltLanes.NOTHING);
                x.tick(1);
                Checks.same("in reach " + reach, x.held(0), 3);
            }
        }
    }

    private static void keepsWhatItHolds() {
        BeltLanes x = new BeltLanes(10);
        x.put(0, 4);
        x.arm(0, 4, 8, 255);
        x.tick(1);
        Checks.same("held", x.held(0), 4);
        Checks.same("arm set anew", x.arm(0, 14, 8, 2), 0);
        Checks.same("held after being set anew", x.held(0), 4);
        x.tick(1);
        Checks.same("put where it is now set to", Checks.belt(x, 3), "10:4");
        x.put(0, 1);
        x.put(2, 1);
        x.tick(1);
        Checks.same("held as it is now set", x.held(0), 1);
        Checks.same("not taken from as before", Checks.belt(x, 0), "9:1");
        Checks.same("taken from as it is now set", Checks.belt(x, 2), "");
    }

    private static void refusesWrongInputs() {
        BeltLanes x = new BeltLanes(8);
        for (int arm : new int[] {-1, 2, Integer.MIN_VALUE, Integer.MAX_VALUE}) {
            Checks.same("arm " + arm, x.arm(arm, 4, 0, 255), BeltLanes.BAD_NUMBER);
        }
        for (int reach : new int[] {-1, 61, Integer.MIN_VALUE, Integer.MAX_VALUE}) {
            Checks.same("reach " + reach, x.arm(0, 4, reach, 255), BeltLanes.BAD_NUMBER);
            Checks.same("reach " + reach, x.arm(1, 4, reach, 255), BeltLanes.BAD_NUMBER);
        }
        x.put(0, 2);
        x.tick(9);
        Checks.same("held(0) after refused calls", x.held(0), BeltLanes.NOTHING);
        Checks.same("held(1) after refused calls", x.held(1), BeltLanes.NOTHING);
        keepsItsSettings();
    }

    private static void keepsItsSettings() {
        BeltLanes x = new BeltLanes(8);
        x.arm(0, 4, 5, 4);
        x.arm(0, 14, 61, 8);
        x.arm(0, 14, -1, 8);
        x.arm(2, 14, 0, 8);
        x.put(0, 2);
        x.tick(1);
        Checks.same("takes as it was set", x.held(0), 2);
        x.tick(1);
        Checks.same("puts as it was set", Checks.belt(x, 1), "8:2");
    }
}
