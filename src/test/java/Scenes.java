/** Objects brought to a named state, each time by the same calls, so that two of them can be compared. */
final class Scenes {
    static final int NEW = 0;
    static final int BUSY = 1;
    static final int FULL = 2;
    static final int LONG = 3;
    static final int COUNT = 4;

    private Scenes() {
    }

    /** The four belts as {@link Checks#belt} tells them, with closed ends, no arm being set. */
    static BeltLanes belts(int length, String... belts) {
        BeltLanes x = new BeltLanes(length);
        // An item that is to be at place p at last is put on when length - p ticks are left.
        for (int place = 0; place <= length; place++) {
            for (int belt = 0; belt < 4; belt++) {
                putIfDue(x, belt, belts[belt], place);
            }
            x.tick(place < length ? 1 : 0);
        }
        Checks.belts("the scene", x, belts);
        return x;
    }

    private static void putIfDue(BeltLanes x, int belt, String items, int place) {
        for (String item : items.split(" ")) {
            if (item.startsWith(place + ":")) {
                x.put(belt, Integer.parseInt(item.substring(item.indexOf(':') + 1)));
            }
        }
    }

    /** One belt as told, the other three empty. */
    static BeltLanes oneBelt(int length, int belt, String items) {
        String[] belts = {"", "", "", ""};
        belts[belt] = items;
        return belts(length, belts);
    }

    /** A belt with as many items as it can carry, all of one kind: at 0, 4, 8 and so on. */
    static String fullOf(int length, int kind) {
        StringBuilder text = new StringBuilder("0:" + kind);
        for (int place = 4; place <= length; place += 4) {
            text.append(' ').append(place).append(':').append(kind);
        }
        return text.toString();
    }

    /** Items on the way, an arm that holds an item and an empty one, every sort of end. */
    private static BeltLanes busy() {
        BeltLanes x = belts(12, "1:1 6:2", "4:3 9:4", "6:5", "0:6 4:7 12:0");
        x.arm(0, 2 | (1 << 2), 4, 255);
        x.arm(1, 1 | (3 << 2), 8, 2 + 4);
        x.tick(1);
        x.lead(0, 1);
        x.lead(1, BeltLanes.OPEN);
        x.lead(2, 0);
        Checks.belts("the busy scene", x, "0:1 5:2", "3:3 8:4", "", "0:6 4:7 11:0");
        Checks.same("held(0) in the busy scene", x.held(0), 5);
        Checks.same("held(1) in the busy scene", x.held(1), BeltLanes.NOTHING);
        return x;
    }

    /** Four full belts that lead in a ring, and two arms that hold an item: nothing can move. */
    private static BeltLanes full() {
        BeltLanes x = belts(8, "0:0 4:1 8:2", "0:3 4:4 8:5", "0:6 4:7 8:0", "0:1 4:2 8:3");
        x.arm(0, 0 | (1 << 2), 8, 255);
        x.arm(1, 2 | (3 << 2), 7, 1);
        x.tick(1);
        x.put(0, 4);
        x.put(2, 6);
        for (int belt = 0; belt < 4; belt++) {
            x.lead(belt, (belt + 1) % 4);
        }
        Checks.belts("the full scene", x, "0:0 4:1 8:4", "0:3 4:4 8:5", "0:6 4:7 8:6", "0:1 4:2 8:3");
        Checks.same("held(0) in the full scene", x.held(0), 2);
        Checks.same("held(1) in the full scene", x.held(1), 0);
        return x;
    }

    private static BeltLanes longest() {
        BeltLanes x = belts(60, "0:1 56:2", "", "60:3", "57:4");
        x.lead(0, BeltLanes.OPEN);
        x.arm(0, 2 | (3 << 2), 60, 255);
        x.arm(1, 3 | (1 << 2), 50, 255);
        return x;
    }

    static BeltLanes make(int scene) {
        switch (scene) {
            case BUSY:
                return busy();
            case FULL:
                return full();
            case LONG:
                return longest();
            default:
                return new BeltLanes(8);
        }
    }

    /**
     * Compares what can't be looked at, the ends and how the arms are set, by what comes of it. No
     * call that only looks is used until the end, so that one that changes something is found out.
     */
    static void goOnAlike(String what, BeltLanes x, BeltLanes twin) {
        for (int belt = 0; belt < 4; belt++) {
            Checks.same(what + ", then lead", x.lead(belt, BeltLanes.CLOSED), twin.lead(belt, BeltLanes.CLOSED));
        }
        for (int round = 0; round < 16; round++) {
            for (int belt = 0; belt < 4; belt++) {
                int kind = (3 * round + belt) % 8;
                Checks.same(what + ", then take", x.take(belt), twin.take(belt));
                Checks.same(what + ", then put", x.put(belt, kind), twin.put(belt, kind));
            }
            int ticks = 1 + round % 4;
            Checks.same(what + ", then tick", x.tick(ticks), twin.tick(ticks));
        }
        Checks.same(what + ", state at last", Checks.state(x), Checks.state(twin));
    }
}
