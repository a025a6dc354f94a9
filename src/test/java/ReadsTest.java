/** Promises 3, 4 and 16: read, drop, readOf. */
public final class ReadsTest {
    private static final Check CHECK = new Check("ReadsTest");

    public static void main(String[] args) {
        readsAreNumbered();
        wrongInputs();
        thirtyAtATime();
        fiveHundredEver();
        drops();
        dropOfWhatGoesOn();
        tellsOfReads();
        CHECK.end();
    }

    private static void readsAreNumbered() {
        Used x = new Used();
        CHECK.due("read(11, 50)", x.read(11, 50), 0);
        CHECK.due("read(0, 1)", x.read(0, 1), 1);
        CHECK.due("read(11, 1)", x.read(11, 1), 2);
        CHECK.due("reads so far", x.count(4), 3);
        CHECK.due("reads that wait", x.count(3), 3);
        CHECK.due("reads of disk 11", x.disk(11, 5), 2);
        CHECK.due("states", x.count(17), 3);
        x.undo();
        CHECK.due("a number taken back is given again", x.read(4, 4), 2);
        CHECK.due("its disk", x.readOf(2, 0), 4);
    }

    private static void wrongInputs() {
        Used x = new Used();
        for (int disk : new int[] {-1, 12, Integer.MIN_VALUE, Integer.MAX_VALUE}) {
            CHECK.due("read(" + disk + ", 1)", x.read(disk, 1), -1);
            CHECK.due("read(" + disk + ", 0)", x.read(disk, 0), -1);
        }
        for (int ticks : new int[] {0, 51, -1, Integer.MIN_VALUE, Integer.MAX_VALUE}) {
            CHECK.due("read(0, " + ticks + ")", x.read(0, ticks), -2);
        }
        for (int read : new int[] {-1, 0, 1, 500, Integer.MIN_VALUE, Integer.MAX_VALUE}) {
            CHECK.due("drop(" + read + ")", x.drop(read), -1);
            CHECK.due("readOf(" + read + ", 0)", x.readOf(read, 0), -1);
            CHECK.due("readOf(" + read + ", 9)", x.readOf(read, 9), -1);
        }
        x.read(0, 1);
        for (int what : new int[] {-1, 5, Integer.MIN_VALUE, Integer.MAX_VALUE}) {
            CHECK.due("readOf(0, " + what + ")", x.readOf(0, what), -2);
        }
        CHECK.due("only the read is recorded", x.count(17), 1);
    }

    private static Used withBrokenDisk(int disk) {
        Used x = new Used();
        x.set(0, 1);
        x.read(disk, 1);
        for (int start = 0; start < 3; start++) {
            x.fail(disk);
            x.run(2);
        }
        CHECK.due("the disk is broken", x.disk(disk, 0), 3);
        return x;
    }

    private static void thirtyAtATime() {
        Used x = withBrokenDisk(5);
        for (int read = 0; read < 30; read++) {
            CHECK.due("read " + read, x.read(read % 5, 50), read + 1);
        }
        int states = x.count(17);
        CHECK.due("one more", x.read(0, 1), -3);
        CHECK.due("a broken disk is told ahead of no room", x.read(5, 1), -4);
        CHECK.due("ticks are told ahead of a broken disk", x.read(5, 0), -2);
        CHECK.due("30 wait", x.count(3), 30);
        CHECK.due("so far", x.count(4), 31);
        CHECK.due("states", x.count(17), states);
        CHECK.due("drop(7)", x.drop(7), 29);
        CHECK.due("room again", x.read(6, 1), 31);
        CHECK.due("full again", x.read(6, 1), -3);
        CHECK.due("reads ahead of the last of disk 4", x.readOf(30, 3), 5);
        CHECK.due("ahead of the last of disk 1, of which one is dropped", x.readOf(27, 3), 4);
    }

    private static void fiveHundredEver() {
        Used x = new Used();
        x.set(0, 1);
        x.set(9, 0);
        Check.write(x, "read 0 1;read 1 1;read 2 1;read 3 1;read 4 1;run 4");
        for (int turn = 0; turn < 99; turn++) {
            CHECK.due("turn " + turn, x.perform(), 6);
        }
        CHECK.due("so far", x.count(4), 495);
        CHECK.due("all answered", x.count(5), 495);
        for (int read = 495; read < 500; read++) {
            CHECK.due("read " + read, x.read(0, 50), read);
        }
        CHECK.due("the 501st", x.read(0, 50), -3);
        x.drop(499);
        CHECK.due("a dropped one still counts", x.read(0, 50), -3);
        CHECK.due("the program is not possible", x.perform(), -4);
        x.undo();
        x.undo();
        CHECK.due("undone ones don't", x.read(3, 50), 499);
        CHECK.due("of disk 3", x.readOf(499, 0), 3);
    }

    private static void drops() {
        Used x = new Used();
        for (int read = 0; read < 4; read++) {
            x.read(read % 2, 10 + read);
        }
        CHECK.due("drop(2)", x.drop(2), 3);
        CHECK.due("drop(2) again", x.drop(2), -1);
        CHECK.due("it is gone", x.readOf(2, 0), -1);
        CHECK.due("of disk 0", x.disk(0, 5), 1);
        CHECK.due("of disk 1", x.disk(1, 5), 2);
        CHECK.due("ticks of 3", x.readOf(3, 1), 13);
        CHECK.due("ahead of 3", x.readOf(3, 3), 1);
        CHECK.due("drop(1)", x.drop(1), 2);
        CHECK.due("ahead of 3 then", x.readOf(3, 3), 0);
        CHECK.due("drop(3)", x.drop(3), 1);
        CHECK.due("drop(0)", x.drop(0), 0);
        CHECK.due("dropped ones are not lost", x.count(6), 0);
        CHECK.due("nor answered", x.count(5), 0);
        CHECK.due("so far", x.count(4), 4);
        CHECK.due("drop is an act", x.undo(), 3);
        CHECK.due("0 is back", x.readOf(0, 1), 10);
    }

    private static void dropOfWhatGoesOn() {
        Used x = new Used();
        x.read(0, 5);
        x.read(0, 2);
        x.run(9);
        CHECK.due("it goes on", x.readOf(0, 2), 2);
        CHECK.due("drop(0)", x.drop(0), 1);
        CHECK.due("the next one goes on", x.run(1), 0);
        CHECK.due("by a tick", x.readOf(1, 2), 1);
        CHECK.due("drop(1)", x.drop(1), 0);
        CHECK.due("it spins without a read", x.disk(0, 1), 6);
        x.run(1);
        CHECK.due("and is idle", x.disk(0, 4), 1);
        x.read(1, 1);
        x.run(1);
        x.drop(2);
        x.run(6);
        CHECK.due("a start goes on without its read", x.disk(1, 0), 2);
        CHECK.due("and is idle at once", x.disk(1, 4), 1);
    }

    private static void tellsOfReads() {
        Used x = new Used();
        x.run(10);
        x.read(3, 4);
        x.run(2);
        x.read(4, 9);
        x.read(3, 50);
        int[][] due = {{3, 4, 4, 0, 2}, {4, 9, 9, 0, 0}, {3, 50, 50, 1, 0}};
        for (int read = 0; read < 3; read++) {
            for (int what = 0; what < 5; what++) {
                CHECK.due("readOf(" + read + ", " + what + ")", x.readOf(read, what), due[read][what]);
            }
        }
        x.run(6);
        CHECK.due("left of 0", x.readOf(0, 2), 2);
        CHECK.due("left of 2, which waits", x.readOf(2, 2), 50);
        x.run(2);
        CHECK.due("0 is answered", x.readOf(0, 2), -1);
        CHECK.due("2 has begun not yet", x.readOf(2, 2), 50);
        CHECK.due("none is ahead of it", x.readOf(2, 3), 0);
        CHECK.due("asked for so long ago", x.readOf(2, 4), 8);
        x.run(1);
        CHECK.due("left of 2", x.readOf(2, 2), 49);
    }
}
