/**
 * "nothing changes then": every call that promises 2 to 5 and 14 refuse, made in several states.
 * Each has its answer, and the object goes on just as one that the call was not made on.
 */
final class RefusedCallsTest {
    private static final int[] WRONG_BELTS = {-1, 4, 7, Integer.MIN_VALUE, Integer.MAX_VALUE};
    private static final int[] WRONG_KINDS = {-1, 8, Integer.MIN_VALUE, Integer.MAX_VALUE};
    private static final int[] WRONG_ENDS = {-3, 4, Integer.MIN_VALUE, Integer.MAX_VALUE};
    private static final int[] WRONG_ARMS = {-1, 2, Integer.MIN_VALUE, Integer.MAX_VALUE};
    private static final int[] WRONG_REACHES = {-1, 61, Integer.MIN_VALUE, Integer.MAX_VALUE};

    private interface Call {
        int on(BeltLanes x);
    }

    public static void main(String[] args) {
        for (int scene = 0; scene < Scenes.COUNT; scene++) {
            putOnAWrongBelt(scene);
            putOfAWrongKind(scene);
            takeFromAWrongBelt(scene);
            leadOfAWrongBelt(scene);
            leadToAWrongPlace(scene);
            leadToItself(scene);
            armThatIsNone(scene);
            armWithAWrongReach(scene);
            armWithBothWrong(scene);
        }
        putWithoutRoom();
        takeWhereThereIsNone();
        Checks.end();
    }

    private static void refused(int scene, String call, int due, Call made) {
        String what = call + " in scene " + scene;
        BeltLanes x = Scenes.make(scene);
        BeltLanes twin = Scenes.make(scene);
        Checks.same(what, made.on(x), due);
        Checks.same(what + ", state", Checks.state(x), Checks.state(twin));
        Scenes.goOnAlike(what, x, twin);
    }

    /** Promise 14: BAD_BELT is tested before BAD_KIND. */
    private static void putOnAWrongBelt(int scene) {
        for (int belt : WRONG_BELTS) {
            for (int kind : new int[] {0, 7, -1, 8}) {
                refused(scene, "put(" + belt + ", " + kind + ")", BeltLanes.BAD_BELT, x -> x.put(belt, kind));
            }
        }
    }

    /** Promise 14: BAD_KIND is tested before NO_ROOM, which all belts have in the full scene. */
    private static void putOfAWrongKind(int scene) {
        for (int belt = 0; belt < 4; belt++) {
            for (int kind : WRONG_KINDS) {
                int on = belt;
                refused(scene, "put(" + belt + ", " + kind + ")", BeltLanes.BAD_KIND, x -> x.put(on, kind));
            }
        }
    }

    private static void putWithoutRoom() {
        for (int kind = 0; kind < 8; kind++) {
            int put = kind;
            for (int belt = 0; belt < 4; belt++) {
                int on = belt;
                refused(Scenes.FULL, "put(" + belt + ", " + kind + ")", BeltLanes.NO_ROOM, x -> x.put(on, put));
            }
            refused(Scenes.BUSY, "put(3, " + kind + ")", BeltLanes.NO_ROOM, x -> x.put(3, put));
            refused(Scenes.LONG, "put(2, " + kind + ")", BeltLanes.NO_ROOM, x -> x.put(2, put));
            refused(Scenes.LONG, "put(3, " + kind + ")", BeltLanes.NO_ROOM, x -> x.put(3, put));
        }
    }

    private static void takeFromAWrongBelt(int scene) {
        for (int belt : WRONG_BELTS) {
            refused(scene, "take(" + belt + ")", BeltLanes.BAD_BELT, x -> x.take(belt));
        }
    }

    /** An empty belt, or one whose first item is not yet at place 0. */
    private static void takeWhereThereIsNone() {
        for (int belt = 0; belt < 4; belt++) {
            int from = belt;
            refused(Scenes.NEW, "take(" + belt + ")", BeltLanes.NOTHING, x -> x.take(from));
        }
        refused(Scenes.BUSY, "take(1)", BeltLanes.NOTHING, x -> x.take(1));
        refused(Scenes.BUSY, "take(2)", BeltLanes.NOTHING, x -> x.take(2));
        refused(Scenes.LONG, "take(1)", BeltLanes.NOTHING, x -> x.take(1));
        refused(Scenes.LONG, "take(2)", BeltLanes.NOTHING, x -> x.take(2));
        refused(Scenes.LONG, "take(3)", BeltLanes.NOTHING, x -> x.take(3));
    }

    /** Promise 14: BAD_BELT is tested before BAD_NUMBER. */
    private static void leadOfAWrongBelt(int scene) {
        for (int belt : WRONG_BELTS) {
            for (int to : new int[] {BeltLanes.OPEN, BeltLanes.CLOSED, 0, 3, -3, 4, belt}) {
                refused(scene, "lead(" + belt + ", " + to + ")", BeltLanes.BAD_BELT, x -> x.lead(belt, to));
            }
        }
    }

    private static void leadToAWrongPlace(int scene) {
        for (int belt = 0; belt < 4; belt++) {
            int of = belt;
            for (int to : WRONG_ENDS) {
                refused(scene, "lead(" + belt + ", " + to + ")", BeltLanes.BAD_NUMBER, x -> x.lead(of, to));
            }
        }
    }

    private static void leadToItself(int scene) {
        for (int belt = 0; belt < 4; belt++) {
            int both = belt;
            refused(scene, "lead(" + belt + ", " + belt + ")", BeltLanes.BAD_NUMBER, x -> x.lead(both, both));
        }
    }

    private static void armThatIsNone(int scene) {
        for (int arm : WRONG_ARMS) {
            for (int reach : new int[] {0, 60}) {
                for (int belts = 0; belts < 16; belts++) {
                    refusedArm(scene, arm, belts, reach);
                }
            }
        }
    }

    private static void armWithAWrongReach(int scene) {
        for (int reach : WRONG_REACHES) {
            for (int belts = 0; belts < 16; belts++) {
                refusedArm(scene, 0, belts, reach);
                refusedArm(scene, 1, belts, reach);
            }
        }
    }

    private static void armWithBothWrong(int scene) {
        for (int arm : WRONG_ARMS) {
            for (int reach : WRONG_REACHES) {
                refusedArm(scene, arm, 4, reach);
            }
        }
    }

    private static void refusedArm(int scene, int arm, int belts, int reach) {
        for (int kinds : new int[] {0, 255}) {
            String call = "arm(" + arm + ", " + belts + ", " + reach + ", " + kinds + ")";
            refused(scene, call, BeltLanes.BAD_NUMBER, x -> x.arm(arm, belts, reach, kinds));
        }
    }
}
