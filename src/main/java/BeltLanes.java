public final class BeltLanes {
    public static final int BAD_BELT = -1;
    public static final int BAD_KIND = -2;
    public static final int NO_ROOM = -3;
    public static final int NOTHING = -4;
    public static final int BAD_NUMBER = -5;
    public static final int CLOSED = -1;
    public static final int OPEN = -2;

    private static final int BELTS = 4;
    private static final int ARMS = 2;
    private static final int KINDS = 8;
    private static final int SHORTEST = 8;
    private static final int LONGEST = 60;
    private static final int PLACES = LONGEST + 1;
    private static final int CELLS = BELTS * PLACES;
    private static final int GAP = 4;
    private static final int GREATEST_REACH = 60;
    private static final int GRASP = 3;
    private static final int MOST_TICKS = 200;
    private static final int EMPTY = 0;
    // Where the item before the first one is taken to be: far enough beyond the end to hold
    // back no item that is above place 0.
    private static final int NONE_BEFORE = -GAP;

    private final int length;

    // One cell for each place of each belt, rather than a list of items: every index is then
    // bounded by the length alone. A cell holds its item's kind + 1, so a new array is empty.
    private final int[] cells = new int[CELLS];
    private final int[] ends = new int[BELTS];

    private final boolean[] armIsSet = new boolean[ARMS];
    private final int[] armFrom = new int[ARMS];
    private final int[] armTo = new int[ARMS];
    private final int[] armReach = new int[ARMS];
    private final int[] armKinds = new int[ARMS];
    // As in the cells: the kind + 1, or EMPTY.
    private final int[] armHolds = new int[ARMS];

    private int wentOut = 0;

    public BeltLanes(int length) {
        this.length = clamp(length, SHORTEST, LONGEST);
        for (int belt = 0; belt < BELTS; belt++) {
            ends[belt] = CLOSED;
        }
    }

    public int put(int belt, int kind) {
        if (!isBelt(belt)) {
            return BAD_BELT;
        }
        if (kind < 0 || kind >= KINDS) {
            return BAD_KIND;
        }
        if (!hasRoom(belt)) {
            return NO_ROOM;
        }
        cells[belt * PLACES + length] = kind + 1;
        return countItems(belt);
    }

    public int take(int belt) {
        if (!isBelt(belt)) {
            return BAD_BELT;
        }
        int item = cells[belt * PLACES];
        if (item == EMPTY) {
            return NOTHING;
        }
        cells[belt * PLACES] = EMPTY;
        return item - 1;
    }

    public int lead(int belt, int to) {
        if (!isBelt(belt)) {
            return BAD_BELT;
        }
        boolean leadsSomewhere = to == CLOSED || to == OPEN || isBelt(to);
        if (!leadsSomewhere || to == belt) {
            return BAD_NUMBER;
        }
        int ledBefore = ends[belt];
        ends[belt] = to;
        return ledBefore;
    }

    public int arm(int arm, int belts, int reach, int kinds) {
        if (!isArm(arm) || reach < 0 || reach > GREATEST_REACH) {
            return BAD_NUMBER;
        }
        armIsSet[arm] = true;
        armFrom[arm] = belts & 3;
        armTo[arm] = (belts >> 2) & 3;
        armReach[arm] = reach;
        armKinds[arm] = kinds;
        return 0;
    }

    public int tick(int n) {
        int outBefore = wentOut;
        int ticks = clamp(n, 0, MOST_TICKS);
        for (int done = 0; done < ticks; done++) {
            workOneTick();
        }
        return wentOut - outBefore;
    }

    public int items(int belt) {
        if (!isBelt(belt)) {
            return BAD_BELT;
        }
        return countItems(belt);
    }

    public int place(int belt, int i) {
        if (!isBelt(belt)) {
            return BAD_BELT;
        }
        return findItem(belt, i);
    }

    public int kind(int belt, int i) {
        if (!isBelt(belt)) {
            return BAD_BELT;
        }
        int at = findItem(belt, i);
        if (at < 0) {
            return NOTHING;
        }
        return cells[belt * PLACES + at] - 1;
    }

    public int out() {
        return wentOut;
    }

    public int held(int arm) {
        if (!isArm(arm)) {
            return BAD_NUMBER;
        }
        if (armHolds[arm] == EMPTY) {
            return NOTHING;
        }
        return armHolds[arm] - 1;
    }

    public boolean room(int belt) {
        return isBelt(belt) && hasRoom(belt);
    }

    public int moving(int belt) {
        if (!isBelt(belt)) {
            return BAD_BELT;
        }
        int movers = 0;
        int before = NONE_BEFORE;
        for (int at = 0; at <= length; at++) {
            if (cells[belt * PLACES + at] != EMPTY) {
                before = placeAfterMove(at, before);
                if (before < at) {
                    movers++;
                }
            }
        }
        return movers;
    }

    private static int clamp(int value, int least, int most) {
        if (value < least) {
            return least;
        }
        return value > most ? most : value;
    }

    private static boolean isBelt(int belt) {
        return belt >= 0 && belt < BELTS;
    }

    private static boolean isArm(int arm) {
        return arm >= 0 && arm < ARMS;
    }

    private boolean hasRoom(int belt) {
        for (int at = length - GAP + 1; at <= length; at++) {
            if (cells[belt * PLACES + at] != EMPTY) {
                return false;
            }
        }
        return true;
    }

    private int countItems(int belt) {
        int count = 0;
        for (int at = 0; at <= length; at++) {
            if (cells[belt * PLACES + at] != EMPTY) {
                count++;
            }
        }
        return count;
    }

    private int findItem(int belt, int number) {
        int passed = 0;
        for (int at = 0; at <= length; at++) {
            if (cells[belt * PLACES + at] != EMPTY) {
                if (passed == number) {
                    return at;
                }
                passed++;
            }
        }
        return NOTHING;
    }

    private void workOneTick() {
        for (int belt = 0; belt < BELTS; belt++) {
            passOnFirst(belt);
            moveItems(belt);
        }
        for (int arm = 0; arm < ARMS; arm++) {
            if (armIsSet[arm]) {
                workArm(arm);
            }
        }
    }

    private void passOnFirst(int belt) {
        int item = cells[belt * PLACES];
        int end = ends[belt];
        if (item == EMPTY || end == CLOSED) {
            return;
        }
        if (end == OPEN) {
            cells[belt * PLACES] = EMPTY;
            wentOut++;
        } else if (hasRoom(end)) {
            cells[belt * PLACES] = EMPTY;
            cells[end * PLACES + length] = item;
        }
    }

    private void moveItems(int belt) {
        int before = NONE_BEFORE;
        for (int at = 0; at <= length; at++) {
            int item = cells[belt * PLACES + at];
            if (item != EMPTY) {
                before = placeAfterMove(at, before);
                cells[belt * PLACES + at] = EMPTY;
                cells[belt * PLACES + before] = item;
            }
        }
    }

    // 'before' is where the item before stands after its own move, since the items move in
    // order from the first: a row of items 4 apart moves as one.
    private static int placeAfterMove(int at, int before) {
        return at > 0 && at - before > GAP ? at - 1 : at;
    }

    private void workArm(int arm) {
        if (armHolds[arm] == EMPTY) {
            pickUp(arm);
        } else {
            putDown(arm);
        }
    }

    private void putDown(int arm) {
        int belt = armTo[arm];
        if (hasRoom(belt)) {
            cells[belt * PLACES + length] = armHolds[arm];
            armHolds[arm] = EMPTY;
        }
    }

    private void pickUp(int arm) {
        int belt = armFrom[arm];
        int farthest = clamp(armReach[arm] + GRASP, 0, length);
        for (int at = armReach[arm]; at <= farthest; at++) {
            int item = cells[belt * PLACES + at];
            if (item != EMPTY && armTakes(arm, item - 1)) {
                cells[belt * PLACES + at] = EMPTY;
                armHolds[arm] = item;
                return;
            }
        }
    }

    private boolean armTakes(int arm, int kind) {
        return ((armKinds[arm] >> kind) & 1) != 0;
    }
}
