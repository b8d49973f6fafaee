/** All promises together: runs of 512 calls, each answer compared with that of the model. */
final class ModelRunsTest {
    private static final int RUNS = 600;
    private static final int CALLS = 512;
    private static final int[] ODD = {-1, 4, 8, -2, 2, 61, 200, Integer.MIN_VALUE, Integer.MAX_VALUE};

    // A sequence of its own, so that every run of the test is the same.
    private long seed;
    private final int run;
    private final BeltLanes x;
    private final BeltModel model;

    private ModelRunsTest(int run) {
        this.run = run;
        seed = 7919L * run + 1;
        int length = run % 10 == 0 ? odd() : 8 + below(53);
        x = new BeltLanes(length);
        model = new BeltModel(length);
    }

    public static void main(String[] args) {
        for (int run = 0; run < RUNS; run++) {
            ModelRunsTest test = new ModelRunsTest(run);
            for (int call = 0; call < CALLS; call++) {
                test.callOnce(call);
            }
        }
        Checks.end();
    }

    private void callOnce(int call) {
        int which = below(call < 12 ? 8 : 24);
        String what = "run " + run + ", call " + call;
        switch (which) {
            case 0, 1 -> lead(what);
            case 2, 3 -> arm(what);
            case 4, 5, 6, 7, 8, 9 -> put(what);
            case 10, 11, 12, 13 -> tick(what);
            case 14 -> take(what);
            default -> look(what, which);
        }
    }

    private void lead(String what) {
        int belt = belt();
        int to = below(12) == 0 ? odd() : below(6) - 2;
        Checks.same(what + ": lead(" + belt + ", " + to + ")", x.lead(belt, to), model.lead(belt, to));
    }

    private void arm(String what) {
        int arm = below(16) == 0 ? odd() : below(2);
        int belts = below(8) == 0 ? odd() : below(16);
        int reach = below(16) == 0 ? odd() : below(3) == 0 ? below(61) : below(16);
        int kinds = below(8) == 0 ? odd() : below(2) == 0 ? 255 : below(256);
        String call = ": arm(" + arm + ", " + belts + ", " + reach + ", " + kinds + ")";
        Checks.same(what + call, x.arm(arm, belts, reach, kinds), model.arm(arm, belts, reach, kinds));
    }

    private void put(String what) {
        int belt = belt();
        int kind = below(16) == 0 ? odd() : below(8);
        Checks.same(what + ": put(" + belt + ", " + kind + ")", x.put(belt, kind), model.put(belt, kind));
    }

    private void tick(String what) {
        int n = below(24) == 0 ? odd() : below(8) == 0 ? below(70) : below(7);
        Checks.same(what + ": tick(" + n + ")", x.tick(n), model.tick(n));
    }

    private void take(String what) {
        int belt = belt();
        Checks.same(what + ": take(" + belt + ")", x.take(belt), model.take(belt));
    }

    private void look(String what, int which) {
        int belt = belt();
        int i = below(8) == 0 ? odd() : below(6);
        int arm = below(8) == 0 ? odd() : below(2);
        String on = " on " + belt + ", " + i;
        switch (which) {
            case 15 -> Checks.same(what + ": items" + on, x.items(belt), model.items(belt));
            case 16, 17 -> Checks.same(what + ": place" + on, x.place(belt, i), model.place(belt, i));
            case 18, 19 -> Checks.same(what + ": kind" + on, x.kind(belt, i), model.kind(belt, i));
            case 20 -> Checks.same(what + ": out", x.out(), model.out());
            case 21 -> Checks.same(what + ": held(" + arm + ")", x.held(arm), model.held(arm));
            case 22 -> Checks.same(what + ": room" + on, x.room(belt), model.room(belt));
            default -> Checks.same(what + ": moving" + on, x.moving(belt), model.moving(belt));
        }
    }

    private int belt() {
        return below(16) == 0 ? odd() : below(4);
    }

    private int odd() {
        return ODD[below(ODD.length)];
    }

    private int below(int bound) {
        seed = seed * 6364136223846793005L + 1442695040888963407L;
        return (int) ((seed >>> 33) % bound);
    }
}
