/** Edges of READS and of promises 3, 4 and 16. */
public final class ReadsEdgesTest {
    private static final Check CHECK = new Check("ReadsEdgesTest");

    public static void main(String[] args) {
        whichDisk();
        ticksOfARead();
        thirtyAtATime();
        roomAgain();
        numbersInOrder();
        fiveHundredEver();
        oneAtATime();
        orderOfErrors();
        dropOfWhatIsThere();
        dropOfWhatGoesOn();
        readsLeft();
        tellsOfWhatIsThere();
        eachWhat();
        CHECK.end();
    }

    private static void whichDisk() {
        CHECK.sentence("Asks for a read.");
        CHECK.sentence("There are 12 disks, numbered from 0.");
        Used x = new Used();
        int[] outside = {Integer.MIN_VALUE, -12, -1, 12, 13, Integer.MAX_VALUE};
        for (int disk : outside) {
            CHECK.due("read(" + disk + ", 1)", x.read(disk, 1), -1);
        }
        CHECK.due("read(0, 1)", x.read(0, 1), 0);
        CHECK.due("read(11, 1)", x.read(11, 1), 1);
        CHECK.due("disk of 0", x.readOf(0, 0), 0);
        CHECK.due("disk of 1", x.readOf(1, 0), 11);
    }

    private static void ticksOfARead() {
        CHECK.sentence("`ticks`: 1 to 50");
        CHECK.sentence("A read is of a disk and takes so many ticks (1 to 50).");
        Used x = new Used();
        for (int ticks : new int[] {Integer.MIN_VALUE, -1, 0, 51, 52, Integer.MAX_VALUE}) {
            CHECK.due("read(0, " + ticks + ")", x.read(0, ticks), -2);
        }
        CHECK.due("none is asked for", x.count(4), 0);
        for (int ticks : new int[] {1, 2, 49, 50}) {
            Used y = new Used();
            CHECK.due("read(0, " + ticks + ")", y.read(0, ticks), 0);
            CHECK.due("its ticks", y.readOf(0, 1), ticks);
            CHECK.due("not answered in a tick less", y.run(6 + ticks - 1), 0);
            CHECK.due("its last tick is left", y.readOf(0, 2), 1);
            CHECK.due("answered in its last tick", y.run(1), 1);
            CHECK.due("it is gone", y.readOf(0, 2), -1);
        }
    }

    private static Used waiting(int reads) {
        Used x = new Used();
        for (int read = 0; read < reads; read++) {
            CHECK.due("read", x.read(read % 12, 50), read);
        }
        return x;
    }

    private static void full(Used x, int waiting) {
        int asked = x.count(4);
        CHECK.due("one more behind " + waiting, x.read(3, 1), -3);
        CHECK.due("waiting", x.count(3), waiting);
        CHECK.due("so far", x.count(4), asked);
    }

    private static void thirtyAtATime() {
        CHECK.sentence("At most 30 reads wait or go on at a time");
        Used x = waiting(29);
        CHECK.due("the 30th", x.read(3, 1), 29);
        CHECK.due("waiting", x.count(3), 30);
        full(x, 30);
        x.run(8);
        CHECK.due("three go on", x.count(9), 3);
        full(x, 30);
        Used y = new Used();
        for (int read = 0; read < 30; read++) {
            y.read(7, 1);
        }
        full(y, 30);
        CHECK.due("all of one disk", y.disk(7, 5), 30);
        CHECK.due("ahead of the last one", y.readOf(29, 3), 29);
    }

    private static void oneMore(Used x, int number) {
        CHECK.due("room for one", x.read(3, 50), number);
        full(x, 30);
    }

    private static void roomAgain() {
        CHECK.sentence("FULL if there are 30, or there were 500.");
        Used x = waiting(30);
        x.drop(29);
        oneMore(x, 30);
        x.undo();
        oneMore(x, 30);
        Used y = new Used();
        y.read(0, 1);
        for (int read = 1; read < 30; read++) {
            y.read(0, 50);
        }
        CHECK.due("none answered", y.run(6), 0);
        full(y, 30);
        CHECK.due("one answered", y.run(1), 1);
        oneMore(y, 30);
        Used z = Drawers.failedTwice(4);
        for (int read = 1; read < 30; read++) {
            z.read(read < 20 ? 4 : 5, 50);
        }
        full(z, 30);
        z.fail(4);
        z.run(2);
        CHECK.due("twenty are lost", z.count(6), 20);
        for (int read = 30; read < 50; read++) {
            CHECK.due("room for twenty", z.read(6, 50), read);
        }
        full(z, 30);
    }

    private static void numbersInOrder() {
        CHECK.sentence("they are numbered in the order in which they were asked for, from 0, at most 500 ever.");
        Used x = new Used();
        CHECK.due("the first", x.read(9, 1), 0);
        CHECK.due("of a lower disk", x.read(2, 1), 1);
        x.drop(1);
        CHECK.due("no number twice", x.read(2, 1), 2);
        x.run(7);
        CHECK.due("also of answered ones", x.read(9, 1), 3);
        CHECK.due("a refused one has none", x.read(9, 0), -2);
        CHECK.due("the next one", x.read(9, 1), 4);
        x.undo();
        CHECK.due("an undone one had none", x.read(8, 1), 4);
    }

    private static void fiveHundredEver() {
        CHECK.sentence("FULL if there are 30, or there were 500.");
        Used x = Drawers.answered(499);
        CHECK.due("so far", x.count(4), 499);
        CHECK.due("none waits", x.count(3), 0);
        CHECK.due("the 500th", x.read(11, 1), 499);
        CHECK.due("the 501st", x.read(11, 1), -3);
        CHECK.due("so far", x.count(4), 500);
        CHECK.due("drop(499)", x.drop(499), 0);
        CHECK.due("none waits, but there were 500", x.read(11, 1), -3);
        x.undo();
        x.undo();
        CHECK.due("undone: the 500th", x.read(10, 2), 499);
        x.run(9);
        CHECK.due("answered", x.count(5), 500);
        CHECK.due("there were 500", x.read(0, 1), -3);
        Used y = Drawers.answered(470);
        for (int read = 470; read < 500; read++) {
            CHECK.due("read", y.read(0, 50), read);
        }
        CHECK.due("there are 30, and were 500", y.read(0, 1), -3);
        CHECK.due("the last one is there", y.readOf(499, 3), 29);
        CHECK.due("and the one behind it is not", y.readOf(500, 3), -1);
    }

    private static void oneAtATime() {
        CHECK.sentence("A disk reads one at a time, the lowest number first.");
        Used x = new Used();
        x.read(0, 2);
        x.read(0, 1);
        x.read(0, 3);
        x.read(1, 5);
        x.run(7);
        left(x, 1, 1, 3, 4);
        CHECK.due("the first is answered", x.run(1), 1);
        left(x, -1, 1, 3, 3);
        CHECK.due("the second not in the same tick, but in the next", x.run(1), 1);
        left(x, -1, -1, 3, 2);
        x.read(0, 1);
        x.run(1);
        left(x, -1, -1, 2, 1);
        CHECK.due("a shorter one asked for later waits", x.readOf(4, 2), 1);
        x.drop(2);
        CHECK.due("it is its turn, and that of another disk's last tick", x.run(1), 2);
    }

    private static void left(Used x, int... due) {
        for (int read = 0; read < due.length; read++) {
            CHECK.due("left of read " + read, x.readOf(read, 2), due[read]);
        }
    }

    private static void orderOfErrors() {
        CHECK.sentence("Returns its number; UNKNOWN; BAD_VALUE; NOT_POSSIBLE if the disk is broken; "
            + "FULL if there are 30");
        Used x = Drawers.broken(4);
        for (int read = 1; read < 30; read++) {
            x.read(5, 50);
        }
        CHECK.due("29 wait: another disk", x.read(6, 50), 30);
        CHECK.due("30 wait: another disk", x.read(6, 50), -3);
        CHECK.due("a broken one ahead of FULL", x.read(4, 50), -4);
        CHECK.due("a bad value ahead of a broken one", x.read(4, 51), -2);
        CHECK.due("a bad value ahead of FULL", x.read(6, 0), -2);
        CHECK.due("no such disk ahead of a bad value", x.read(12, 51), -1);
        CHECK.due("no such disk ahead of FULL", x.read(-1, 50), -1);
        CHECK.due("waiting", x.count(3), 30);
    }

    private static void dropOfWhatIsThere() {
        CHECK.sentence("`read`: a read that waits or goes on");
        Used x = Drawers.broken(4);
        CHECK.due("a lost one", x.drop(0), -1);
        CHECK.due("one that was not asked for", x.drop(1), -1);
        x.read(5, 1);
        x.read(5, 2);
        x.run(2);
        CHECK.due("an answered one", x.drop(1), -1);
        for (int read : new int[] {Integer.MIN_VALUE, -1, 3, 500, Integer.MAX_VALUE}) {
            CHECK.due("drop(" + read + ")", x.drop(read), -1);
        }
        CHECK.due("so far", x.count(4), 3);
        CHECK.due("one that goes on", x.drop(2), 0);
        CHECK.due("a dropped one", x.drop(2), -1);
    }

    private static void dropOfWhatGoesOn() {
        CHECK.sentence("Takes a read back, also one that goes on.");
        Used x = new Used();
        x.read(0, 2);
        x.read(0, 2);
        x.run(7);
        CHECK.due("with its last tick left", x.readOf(0, 2), 1);
        CHECK.due("drop(0)", x.drop(0), 1);
        CHECK.due("it is not answered", x.run(1), 0);
        CHECK.due("the next one goes on instead", x.readOf(1, 2), 1);
        CHECK.due("none is lost by it", x.count(6), 0);
        CHECK.due("the last one", x.drop(1), 0);
        CHECK.due("the disk spins without a read", x.disk(0, 1), 6);
        Used y = new Used();
        y.read(0, 2);
        y.drop(0);
        y.run(1);
        CHECK.due("without its read the disk does not start", y.disk(0, 7), 0);
    }

    private static void readsLeft() {
        CHECK.sentence("Returns how many reads are left; UNKNOWN.");
        Used x = waiting(30);
        for (int left = 29; left >= 0; left--) {
            int read = left % 2 == 0 ? left / 2 : 29 - left / 2;
            CHECK.due("drop(" + read + ")", x.drop(read), left);
        }
        CHECK.due("all are gone", x.count(3), 0);
    }

    private static void tellsOfWhatIsThere() {
        CHECK.sentence("`read`: a read that waits or goes on");
        Used x = Drawers.broken(4);
        x.read(5, 1);
        x.read(5, 3);
        x.read(5, 4);
        x.drop(3);
        x.run(3);
        CHECK.due("one that goes on", x.readOf(2, 0), 5);
        for (int read : new int[] {Integer.MIN_VALUE, -1, 0, 1, 3, 4, Integer.MAX_VALUE}) {
            CHECK.due("readOf(" + read + ", 0)", x.readOf(read, 0), -1);
            CHECK.due("answeredIn(" + read + ")", x.answeredIn(read), -1);
        }
    }

    private static void eachWhat() {
        CHECK.sentence("`what`: 0 for its disk, 1 for its ticks, 2 for how many of these are left, "
            + "3 for how many reads of its disk are ahead of it, 4 for the ticks since it was asked for");
        Used x = new Used();
        x.run(100);
        x.read(8, 9);
        x.read(7, 50);
        x.read(8, 4);
        for (int what : new int[] {Integer.MIN_VALUE, -1, 5, 6, Integer.MAX_VALUE}) {
            CHECK.due("readOf(0, " + what + ")", x.readOf(0, what), -2);
            CHECK.due("no such read ahead of it", x.readOf(3, what), -1);
        }
        told(x, 0, 8, 9, 9, 0, 0);
        told(x, 1, 7, 50, 50, 0, 0);
        told(x, 2, 8, 4, 4, 1, 0);
        x.run(1);
        told(x, 2, 8, 4, 4, 1, 1);
        x.run(6);
        told(x, 0, 8, 9, 8, 0, 7);
        told(x, 2, 8, 4, 4, 1, 7);
        x.run(7);
        told(x, 0, 8, 9, 1, 0, 14);
        x.run(1);
        told(x, 0, -1, -1, -1, -1, -1);
        told(x, 2, 8, 4, 4, 0, 15);
        x.run(1);
        told(x, 2, 8, 4, 3, 0, 16);
    }

    private static void told(Used x, int read, int... due) {
        for (int what = 0; what < due.length; what++) {
            CHECK.due("readOf(" + read + ", " + what + ")", x.readOf(read, what), due[what]);
        }
    }
}
