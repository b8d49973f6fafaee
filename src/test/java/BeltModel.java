import java.util.ArrayList;
import java.util.List;

/** The document once more, told with lists of items, to compare the class with over long runs. */
final class BeltModel {
    private static final class Item {
        final int kind;
        int place;

        Item(int kind, int place) {
            this.kind = kind;
            this.place = place;
        }
    }

    private static final class Arm {
        boolean set;
        int from;
        int to;
        int reach;
        int kinds;
        Item item;
    }

    private final int length;
    private final List<List<Item>> belts = new ArrayList<>();
    private final int[] ends = {-1, -1, -1, -1};
    private final Arm[] arms = {new Arm(), new Arm()};
    private int out = 0;

    BeltModel(int length) {
        this.length = Math.max(8, Math.min(60, length));
        for (int belt = 0; belt < 4; belt++) {
            belts.add(new ArrayList<>());
        }
    }

    int put(int belt, int kind) {
        if (bad(belt)) {
            return -1;
        }
        if (kind < 0 || kind > 7) {
            return -2;
        }
        if (!room(belt)) {
            return -3;
        }
        belts.get(belt).add(new Item(kind, length));
        return belts.get(belt).size();
    }

    int take(int belt) {
        if (bad(belt)) {
            return -1;
        }
        List<Item> items = belts.get(belt);
        return items.isEmpty() || items.get(0).place != 0 ? -4 : items.remove(0).kind;
    }

    int lead(int belt, int to) {
        if (bad(belt)) {
            return -1;
        }
        if (to < -2 || to > 3 || to == belt) {
            return -5;
        }
        int before = ends[belt];
        ends[belt] = to;
        return before;
    }

    int arm(int number, int belts, int reach, int kinds) {
        if (number < 0 || number > 1 || reach < 0 || reach > 60) {
            return -5;
        }
        Arm arm = arms[number];
        arm.set = true;
        arm.from = Math.floorMod(belts, 4);
        arm.to = Math.floorMod(Math.floorDiv(belts, 4), 4);
        arm.reach = reach;
        arm.kinds = kinds;
        return 0;
    }

    int tick(int n) {
        int before = out;
        for (int i = 0; i < Math.min(n, 200); i++) {
            for (int belt = 0; belt < 4; belt++) {
                turnOfBelt(belt);
            }
            for (Arm arm : arms) {
                turnOfArm(arm);
            }
        }
        return out - before;
    }

    private void turnOfBelt(int belt) {
        List<Item> items = belts.get(belt);
        if (!items.isEmpty() && items.get(0).place == 0) {
            if (ends[belt] == -2) {
                items.remove(0);
                out++;
            } else if (ends[belt] >= 0 && room(ends[belt])) {
                put(ends[belt], items.remove(0).kind);
            }
        }
        move(items);
    }

    private static int move(List<Item> items) {
        int moved = 0;
        for (int i = 0; i < items.size(); i++) {
            Item item = items.get(i);
            if (item.place > 0 && (i == 0 || item.place - items.get(i - 1).place > 4)) {
                item.place--;
                moved++;
            }
        }
        return moved;
    }

    private void turnOfArm(Arm arm) {
        if (!arm.set) {
            return;
        }
        if (arm.item != null) {
            if (room(arm.to)) {
                put(arm.to, arm.item.kind);
                arm.item = null;
            }
            return;
        }
        for (Item item : belts.get(arm.from)) {
            boolean inReach = item.place >= arm.reach && item.place <= arm.reach + 3;
            if (inReach && (arm.kinds & (1 << item.kind)) != 0) {
                arm.item = item;
                belts.get(arm.from).remove(item);
                return;
            }
        }
    }

    int items(int belt) {
        return bad(belt) ? -1 : belts.get(belt).size();
    }

    int place(int belt, int i) {
        return bad(belt) ? -1 : hasItem(belt, i) ? belts.get(belt).get(i).place : -4;
    }

    int kind(int belt, int i) {
        return bad(belt) ? -1 : hasItem(belt, i) ? belts.get(belt).get(i).kind : -4;
    }

    int out() {
        return out;
    }

    int held(int arm) {
        return arm < 0 || arm > 1 ? -5 : arms[arm].item == null ? -4 : arms[arm].item.kind;
    }

    boolean room(int belt) {
        if (bad(belt)) {
            return false;
        }
        List<Item> items = belts.get(belt);
        return items.isEmpty() || items.get(items.size() - 1).place <= length - 4;
    }

    int moving(int belt) {
        if (bad(belt)) {
            return -1;
        }
        List<Item> copy = new ArrayList<>();
        for (Item item : belts.get(belt)) {
            copy.add(new Item(item.kind, item.place));
        }
        return move(copy);
    }

    private boolean hasItem(int belt, int i) {
        return i >= 0 && i < belts.get(belt).size();
    }

    private static boolean bad(int belt) {
        return belt < 0 || belt > 3;
    }
}
