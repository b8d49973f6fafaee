/** Counts and prints the answers that are not due; every test ends with {@link #end}. */
final class Checks {
    private static int wrong = 0;

    private Checks() {
    }

    static void same(String what, long got, long due) {
        if (got != due) {
            tell(what, Long.toString(got), Long.toString(due));
        }
    }

    static void same(String what, boolean got, boolean due) {
        if (got != due) {
            tell(what, Boolean.toString(got), Boolean.toString(due));
        }
    }

    static void same(String what, String got, String due) {
        if (!got.equals(due)) {
            tell(what, got, due);
        }
    }

    private static void tell(String what, String got, String due) {
        wrong++;
        System.out.println(what + " answered " + got + ", due is " + due);
    }

    /** One belt as text: "place:kind" for each item, the first one first. */
    static String belt(BeltLanes x, int belt) {
        StringBuilder text = new StringBuilder();
        int items = x.items(belt);
        for (int i = 0; i < items; i++) {
            text.append(i == 0 ? "" : " ").append(x.place(belt, i)).append(':').append(x.kind(belt, i));
        }
        return text.toString();
    }

    /** The four belts, each told as {@link #belt} tells it. */
    static void belts(String what, BeltLanes x, String... due) {
        String got = belt(x, 0) + " | " + belt(x, 1) + " | " + belt(x, 2) + " | " + belt(x, 3);
        same(what, got, String.join(" | ", due));
    }

    /** All that can be seen of an object by calls that change nothing. */
    static String state(BeltLanes x) {
        StringBuilder text = new StringBuilder();
        for (int belt = 0; belt < 4; belt++) {
            text.append('[').append(belt(x, belt)).append("] room ").append(x.room(belt));
            text.append(" moving ").append(x.moving(belt)).append("; ");
        }
        text.append("out ").append(x.out());
        return text.append(" held ").append(x.held(0)).append(' ').append(x.held(1)).toString();
    }

    static void end() {
        System.out.println(wrong == 0 ? "all answers are as due" : wrong + " answers are not as due");
        if (wrong != 0) {
            System.exit(1);
        }
    }
}
