/** Edges of the numbers 0 to 9 (DISKS; promise 2): both ends of each range, the first value, and what each end does. */
public final class NumbersEdgesTest {
    private static final Check CHECK = new Check("NumbersEdgesTest");

    public static void main(String[] args) {
        whichNumber();
        ticksOfAStart();
        currentOfAStart();
        currentOfSpinning();
        currentOfARead();
        currentOfStandingBy();
        fuse();
        howMuchMore();
        forHowManyTicks();
        startsAtOnce();
        idleTicks();
        previousOne();
        whatGoesOn();
        CHECK.end();
    }

    private static void whichNumber() {
        CHECK.sentence("There are these numbers (range; first value):");
        CHECK.sentence("`which`: 0 to 9");
        for (int which : new int[] {Integer.MIN_VALUE, -20, -1, 10, 11, 20, 29, Integer.MAX_VALUE}) {
            Used x = new Used();
            CHECK.due("set(" + which + ", 5)", x.set(which, 5), -1);
            CHECK.due("count(17) behind it", x.count(17), 0);
        }
        CHECK.due("set(0, 5)", new Used().set(0, 5), 6);
        CHECK.due("set(9, 5)", new Used().set(9, 5), 40);
    }

    /** Just outside, at, and just inside both ends; what is refused leaves the number as it was. */
    private static void range(int which, int lowest, int highest, int first) {
        Used x = new Used();
        String set = "set(" + which + ", ";
        CHECK.due("first value of " + which, x.count(20 + which), first);
        CHECK.due(set + first + ")", x.set(which, first), -5);
        refused(x, which, lowest - 1, first);
        refused(x, which, Integer.MIN_VALUE, first);
        CHECK.due(set + lowest + ")", x.set(which, lowest), first);
        CHECK.due(set + lowest + ") again", x.set(which, lowest), -5);
        refused(x, which, lowest - 1, lowest);
        CHECK.due(set + (lowest + 1) + ")", x.set(which, lowest + 1), lowest);
        refused(x, which, highest + 1, lowest + 1);
        refused(x, which, Integer.MAX_VALUE, lowest + 1);
        CHECK.due(set + highest + ")", x.set(which, highest), lowest + 1);
        CHECK.due(set + highest + ") again", x.set(which, highest), -5);
        refused(x, which, highest + 1, highest);
        CHECK.due(set + (highest - 1) + ")", x.set(which, highest - 1), highest);
        CHECK.due("told then", x.count(20 + which), highest - 1);
    }

    private static void refused(Used x, int which, int value, int stays) {
        CHECK.due("set(" + which + ", " + value + ")", x.set(which, value), -2);
        CHECK.due("number " + which + " behind it", x.count(20 + which), stays);
    }

    private static void ticksOfAStart() {
        CHECK.sentence("0 the ticks of a start (1 to 20; 6)");
        range(0, 1, 20, 6);
        for (int ticks : new int[] {1, 2, 6, 19, 20}) {
            Used x = new Used();
            x.set(0, ticks);
            x.read(0, 50);
            x.run(1);
            CHECK.due("ticks left of a start of " + ticks, x.disk(0, 2), ticks);
            if (ticks > 1) {
                x.run(ticks - 1);
            }
            CHECK.due("it starts", x.disk(0, 0), 1);
            CHECK.due("with a last tick", x.disk(0, 2), 1);
            x.run(1);
            CHECK.due("it spins behind " + ticks, x.disk(0, 0), 2);
            CHECK.due("no tick is left", x.disk(0, 2), 0);
        }
    }

    /** A disk that starts behind 1 tick, and one that spins and reads behind 7. */
    private static Used behind(int ticks) {
        Used x = new Used();
        x.read(5, 50);
        x.run(ticks);
        return x;
    }

    private static void current(Used x, int which, int value, int ofDisk5, int ofAll) {
        x.set(which, value);
        CHECK.due("current of disk 5 by number " + which + " = " + value, x.disk(5, 1), ofDisk5);
        CHECK.due("current of all by number " + which + " = " + value, x.count(1), ofAll);
    }

    private static void currentOfAStart() {
        CHECK.sentence("1 the current of a start (1 to 50; 20)");
        range(1, 1, 50, 20);
        current(behind(1), 1, 20, 20, 31);
        current(behind(1), 1, 1, 1, 12);
        current(behind(1), 1, 50, 50, 61);
        current(behind(7), 1, 50, 10, 21);
    }

    private static void currentOfSpinning() {
        CHECK.sentence("2 of spinning (0 to 20; 6)");
        range(2, 0, 20, 6);
        current(behind(7), 2, 6, 6 + 4, 21);
        current(behind(7), 2, 0, 4, 15);
        current(behind(7), 2, 20, 24, 35);
        current(behind(1), 2, 20, 20, 31);
        Used x = behind(7);
        x.drop(0);
        current(x, 2, 0, 0, 11);
    }

    private static void currentOfARead() {
        CHECK.sentence("3 of a read beside that (0 to 20; 4)");
        range(3, 0, 20, 4);
        current(behind(7), 3, 4, 6 + 4, 21);
        current(behind(7), 3, 0, 6, 17);
        current(behind(7), 3, 20, 26, 37);
        current(behind(6), 3, 20, 20, 31);
        Used x = behind(7);
        x.drop(0);
        current(x, 3, 20, 6, 17);
    }

    private static void currentOfStandingBy() {
        CHECK.sentence("4 of standing by (0 to 5; 1)");
        range(4, 0, 5, 1);
        current(new Used(), 4, 1, 1, 12);
        current(new Used(), 4, 0, 0, 0);
        current(new Used(), 4, 5, 5, 60);
        current(behind(1), 4, 5, 20, 75);
        current(behind(7), 4, 0, 10, 10);
    }

    /** All but two disks start with 50 each, which is as much as the greatest fuse; of the two one spins. */
    private static Used atTheGreatestFuse() {
        Used x = new Used();
        x.set(0, 1);
        x.set(4, 0);
        x.set(9, 0);
        x.read(0, 1);
        x.run(2);
        x.set(0, 20);
        x.set(1, 50);
        x.set(2, 0);
        x.set(3, 0);
        x.set(5, 500);
        x.set(8, 12);
        for (int disk = 1; disk < 12; disk++) {
            x.read(disk, 1);
        }
        x.run(1);
        return x;
    }

    private static void fuse() {
        CHECK.sentence("5 the fuse (10 to 500; 90)");
        range(5, 10, 500, 90);
        Used x = atTheGreatestFuse();
        CHECK.due("ten starts of 50 are as much as 500", x.count(8), 10);
        CHECK.due("current", x.count(1), 500);
        CHECK.due("not above the fuse", x.count(12), 0);
        x.set(2, 1);
        x.run(1);
        CHECK.due("501 is above it", x.count(12), 1);
        Used y = new Used();
        y.set(5, 10);
        y.set(4, 0);
        y.set(1, 10);
        y.read(0, 1);
        CHECK.due("10 is as much as the least fuse", y.couldStart(), 1);
        y.set(1, 11);
        CHECK.due("11 is more", y.couldStart(), 0);
    }

    private static void howMuchMore() {
        CHECK.sentence("6 how much more it bears (0 to 100; 10)");
        range(6, 0, 100, 10);
        Used x = new Used();
        x.set(6, 0);
        x.set(5, 12);
        x.run(1);
        CHECK.due("as much as the fuse", x.count(11) + x.count(12), 0);
        x.set(5, 11);
        x.run(1);
        CHECK.due("one more, where it bears no more", x.count(11), 1);
        Used y = atTheGreatestFuse();
        y.set(6, 100);
        y.set(5, 400);
        y.run(1);
        CHECK.due("100 more", y.count(11), 0);
        CHECK.due("are borne for a while", y.count(12), 1);
        y.set(2, 1);
        y.run(1);
        CHECK.due("101 more are not", y.count(11), 1);
    }

    private static void forHowManyTicks() {
        CHECK.sentence("7 for how many ticks one behind the other (0 to 20; 3)");
        range(7, 0, 20, 3);
        for (int ticks : new int[] {0, 1, 3, 19, 20}) {
            Used x = new Used();
            x.set(5, 11);
            x.set(7, ticks);
            if (ticks > 0) {
                x.run(ticks);
            }
            CHECK.due("not blown behind " + ticks + " hot ticks", x.count(11), 0);
            CHECK.due("hot ticks", x.count(12), ticks);
            x.run(1);
            CHECK.due("blown behind one more than " + ticks, x.count(11), 1);
        }
    }

    private static void startsAtOnce() {
        CHECK.sentence("8 starts at once at most (1 to 12; 3)");
        range(8, 1, 12, 3);
        for (int most : new int[] {1, 2, 3, 11, 12}) {
            Used x = new Used();
            x.set(5, 500);
            x.set(8, most);
            for (int disk = 0; disk < 12; disk++) {
                x.read(disk, 1);
            }
            CHECK.due("could start at once", x.couldStart(), most);
            x.run(1);
            CHECK.due("start at once", x.count(8), most);
            CHECK.due("the last one of them", x.disk(most - 1, 0), 1);
        }
    }

    private static void idleTicks() {
        CHECK.sentence("9 idle ticks behind which a disk rests (0: never; up to 500; 40)");
        range(9, 0, 500, 40);
        for (int ticks : new int[] {1, 2, 40, 199, 200}) {
            Used x = answered();
            x.set(9, ticks);
            if (ticks > 1) {
                x.run(ticks - 1);
            }
            CHECK.due("it spins before " + ticks, x.disk(0, 0), 2);
            CHECK.due("idle ticks", x.disk(0, 4), ticks - 1);
            x.run(1);
            CHECK.due("it rests behind " + ticks, x.disk(0, 0), 0);
        }
        Used y = answered();
        y.set(9, 500);
        y.run(200);
        y.run(200);
        y.run(99);
        CHECK.due("it spins before 500", y.disk(0, 0), 2);
        y.run(1);
        CHECK.due("it rests behind 500", y.disk(0, 0), 0);
        y.undo();
        y.set(9, 0);
        y.run(200);
        CHECK.due("never with 0", y.disk(0, 0), 2);
        CHECK.due("idle ticks beyond 500", y.disk(0, 4), 699);
    }

    /** Disk 0 spins, and was idle for no tick yet. */
    private static Used answered() {
        Used x = new Used();
        x.read(0, 1);
        CHECK.due("answered", x.run(7), 1);
        return x;
    }

    private static void previousOne() {
        CHECK.sentence("`value`: in its range");
        CHECK.sentence("Returns the previous one; UNKNOWN; BAD_VALUE; NONE if it is so already.");
        Used x = new Used();
        CHECK.due("a previous one of 0 is no error", x.set(9, 0), 40);
        CHECK.due("it is 0", x.set(9, 1), 0);
        CHECK.due("recorded", x.count(17), 2);
        CHECK.due("so already", x.set(9, 1), -5);
        CHECK.due("not recorded", x.count(17), 2);
        CHECK.due("no such number ahead of a bad value", x.set(10, -1), -1);
        CHECK.due("no such number ahead of NONE", x.set(-1, 0), -1);
        CHECK.due("a bad value is never so already", x.set(8, 0), -2);
    }

    private static void whatGoesOn() {
        CHECK.sentence("Sets a number; what goes on is not changed by it.");
        Used x = new Used();
        x.read(0, 1);
        x.read(1, 1);
        x.read(2, 1);
        x.run(5);
        x.set(0, 1);
        CHECK.due("a start keeps its ticks", x.disk(0, 2), 2);
        x.set(8, 1);
        x.set(5, 10);
        x.set(6, 100);
        x.set(7, 20);
        CHECK.due("three starts go on", x.count(8), 3);
        x.run(1);
        CHECK.due("also in a tick", x.count(8), 3);
        CHECK.due("and in their last one", x.run(1), 3);
        x.run(2);
        x.set(9, 2);
        CHECK.due("idle for so long already, but it spins", x.count(9), 3);
        x.run(1);
        CHECK.due("until the next tick", x.count(9), 0);
        Used y = new Used();
        y.set(5, 11);
        y.run(3);
        y.set(7, 1);
        CHECK.due("hot for longer already, but not blown", y.count(11), 0);
        CHECK.due("hot ticks stay", y.count(12), 3);
        y.set(5, 10);
        y.set(6, 0);
        CHECK.due("nor by a current above all", y.count(11), 0);
        y.run(1);
        CHECK.due("until the next tick", y.count(11), 1);
    }
}
