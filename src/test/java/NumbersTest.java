/** Promises 1 and 2: a new object, set; and the constants. */
public final class NumbersTest {
    private static final int[] LOWEST = {1, 1, 0, 0, 0, 10, 0, 0, 1, 0};
    private static final int[] HIGHEST = {20, 50, 20, 20, 5, 500, 100, 20, 12, 500};
    private static final int[] FIRST = {6, 20, 6, 4, 1, 90, 10, 3, 3, 40};

    private static final Check CHECK = new Check("NumbersTest");

    public static void main(String[] args) {
        constants();
        newObject();
        rangesOfSet();
        setChangesNothingThatGoesOn();
        setActsOnWhatComes();
        CHECK.end();
    }

    private static void constants() {
        CHECK.due("UNKNOWN", DiskDrawer.UNKNOWN, -1);
        CHECK.due("BAD_VALUE", DiskDrawer.BAD_VALUE, -2);
        CHECK.due("FULL", DiskDrawer.FULL, -3);
        CHECK.due("NOT_POSSIBLE", DiskDrawer.NOT_POSSIBLE, -4);
        CHECK.due("NONE", DiskDrawer.NONE, -5);
    }

    private static void newObject() {
        Used x = new Used();
        int[] due = {0, 12, 0, 0, 0, 0, 0, 12, 0, 0, 0, 0, 0, 0, 0, 0, 0, 0, 0, -2};
        for (int what = 0; what < due.length; what++) {
            CHECK.due("new: count(" + what + ")", x.count(what), due[what]);
        }
        for (int which = 0; which < 10; which++) {
            CHECK.due("new: number " + which, x.count(20 + which), FIRST[which]);
        }
        for (int disk = 0; disk < 12; disk++) {
            for (int what = 0; what < 8; what++) {
                CHECK.due("new: disk(" + disk + ", " + what + ")", x.disk(disk, what), what == 1 ? 1 : 0);
            }
        }
        CHECK.due("new: readOf(0, 0)", x.readOf(0, 0), -1);
        CHECK.due("new: undo()", x.undo(), -5);
        CHECK.due("new: restore()", x.restore(), -5);
        CHECK.due("new: fuse()", x.fuse(), -5);
        CHECK.due("new: clearText()", x.clearText(), 0);
        CHECK.due("new: perform()", x.perform(), -100);
        CHECK.due("new: bestAtOnce()", x.bestAtOnce(), 1);
    }

    private static void rangesOfSet() {
        Used x = new Used();
        for (int which = 0; which < 10; which++) {
            String set = "set(" + which + ", ";
            CHECK.due(set + "as it is)", x.set(which, FIRST[which]), -5);
            CHECK.due(set + "too low)", x.set(which, LOWEST[which] - 1), -2);
            CHECK.due(set + "too high)", x.set(which, HIGHEST[which] + 1), -2);
            CHECK.due(set + "far too low)", x.set(which, Integer.MIN_VALUE), -2);
            CHECK.due(set + "far too high)", x.set(which, Integer.MAX_VALUE), -2);
            CHECK.due(set + "unchanged)", x.count(20 + which), FIRST[which]);
            CHECK.due(set + "lowest)", x.set(which, LOWEST[which]), FIRST[which]);
            CHECK.due(set + "lowest told)", x.count(20 + which), LOWEST[which]);
            CHECK.due(set + "highest)", x.set(which, HIGHEST[which]), LOWEST[which]);
            CHECK.due(set + "highest told)", x.count(20 + which), HIGHEST[which]);
            CHECK.due(set + "first again)", x.set(which, FIRST[which]), HIGHEST[which]);
        }
        CHECK.due("states", x.count(17), 4);
        for (int which : new int[] {-1, 10, Integer.MIN_VALUE, Integer.MAX_VALUE}) {
            CHECK.due("set(" + which + ", 5)", x.set(which, 5), -1);
            CHECK.due("set(" + which + ", -7)", x.set(which, -7), -1);
        }
        Used y = new Used();
        y.set(0, 6);
        y.set(0, 0);
        y.set(10, 0);
        CHECK.due("NONE and errors record nothing", y.count(17), 0);
    }

    private static void setChangesNothingThatGoesOn() {
        Used x = new Used();
        x.read(0, 1);
        x.read(1, 1);
        x.run(1);
        x.set(0, 20);
        CHECK.due("the start goes on with its ticks", x.disk(0, 2), 6);
        x.set(8, 1);
        CHECK.due("two starts go on", x.count(8), 2);
        CHECK.due("both are answered", x.run(6), 2);
        x.set(9, 1);
        CHECK.due("the disks still spin", x.count(9), 2);
        x.run(1);
        CHECK.due("the next tick rests them", x.count(9), 0);
    }

    private static void setActsOnWhatComes() {
        Used x = new Used();
        x.set(0, 1);
        x.read(0, 2);
        x.run(1);
        CHECK.due("a start of one tick", x.disk(0, 2), 1);
        CHECK.due("first tick of the read", x.run(1), 0);
        CHECK.due("second tick of the read", x.run(1), 1);
        int[][] due = {{1, 37, 37}, {2, 11, 11}, {3, 13, 11}, {4, 5, 5}};
        for (int[] each : due) {
            Used y = new Used();
            y.read(0, 1);
            y.run(each[0] == 1 ? 1 : 7);
            y.set(each[0], each[1]);
            if (each[0] == 3) {
                y.read(0, 1);
                CHECK.due("current of a disk that reads", y.disk(0, 1), 6 + 13);
            } else {
                CHECK.due("current by number " + each[0], y.disk(each[0] == 4 ? 5 : 0, 1), each[2]);
            }
        }
    }
}
