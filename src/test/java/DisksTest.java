/** Promises 5, 6 and 15: fail, replace, disk; and the starts that fail. */
public final class DisksTest {
    private static final Check CHECK = new Check("DisksTest");

    public static void main(String[] args) {
        wrongInputs();
        plannedFaults();
        aStartThatFails();
        aSuccessForgetsFailures();
        theThirdFailureBreaks();
        replaceTells();
        replaceWhileReading();
        replaceBroken();
        CHECK.end();
    }

    private static void wrongInputs() {
        Used x = new Used();
        for (int disk : new int[] {-1, 12, Integer.MIN_VALUE, Integer.MAX_VALUE}) {
            CHECK.due("fail(" + disk + ")", x.fail(disk), -1);
            CHECK.due("replace(" + disk + ")", x.replace(disk), -1);
            CHECK.due("disk(" + disk + ", 0)", x.disk(disk, 0), -1);
            CHECK.due("disk(" + disk + ", 8)", x.disk(disk, 8), -1);
        }
        for (int what : new int[] {-1, 8, Integer.MIN_VALUE, Integer.MAX_VALUE}) {
            CHECK.due("disk(11, " + what + ")", x.disk(11, what), -2);
        }
        CHECK.due("nothing is recorded", x.count(17), 0);
    }

    private static void plannedFaults() {
        Used x = new Used();
        CHECK.due("fail(11)", x.fail(11), 1);
        CHECK.due("fail(0)", x.fail(0), 2);
        CHECK.due("fail(11) again", x.fail(11), -5);
        CHECK.due("planned for 11", x.disk(11, 6), 1);
        CHECK.due("planned for 1", x.disk(1, 6), 0);
        CHECK.due("NONE is not recorded", x.count(17), 2);
        x.run(100);
        CHECK.due("it waits for a start", x.disk(11, 6), 1);
        x.undo();
        CHECK.due("undo()", x.undo(), 1);
        CHECK.due("planned for 0 no more", x.disk(0, 6), 0);
    }

    private static void aStartThatFails() {
        Used x = new Used();
        x.read(4, 1);
        x.run(1);
        x.fail(4);
        CHECK.due("five ticks of the start", x.run(5), 0);
        CHECK.due("it still starts", x.disk(4, 0), 1);
        CHECK.due("one tick is left", x.disk(4, 2), 1);
        x.run(1);
        CHECK.due("it stands by, and starts not in this tick", x.disk(4, 0), 0);
        CHECK.due("no tick of a start is left", x.disk(4, 2), 0);
        CHECK.due("one failure", x.disk(4, 3), 1);
        CHECK.due("no fault is planned then", x.disk(4, 6), 0);
        CHECK.due("failed starts", x.count(15), 1);
        CHECK.due("starts", x.count(14), 1);
        x.run(1);
        CHECK.due("it is tried again", x.disk(4, 0), 1);
        CHECK.due("starts of the disk", x.disk(4, 7), 2);
        CHECK.due("one failure still", x.disk(4, 3), 1);
        CHECK.due("answered", x.run(6), 1);
        CHECK.due("no failures behind one another", x.disk(4, 3), 0);
        CHECK.due("all failures", x.count(15), 1);
    }

    /** Another disk starts in the tick in which one failed, though that one has the lower number. */
    private static void aSuccessForgetsFailures() {
        Used x = new Used();
        x.set(0, 2);
        x.set(8, 1);
        x.set(9, 1);
        x.fail(0);
        x.read(0, 1);
        x.read(1, 1);
        x.run(3);
        CHECK.due("0 failed", x.disk(0, 0), 0);
        CHECK.due("1 starts", x.disk(1, 0), 1);
        x.run(2);
        CHECK.due("0 is tried as 1 spins", x.disk(0, 0), 1);
        x.fail(0);
        x.run(2);
        CHECK.due("two failures", x.disk(0, 3), 2);
        x.run(3);
        CHECK.due("a success", x.disk(0, 0), 2);
        CHECK.due("and they are forgotten", x.disk(0, 3), 0);
        x.run(1);
        CHECK.due("it rests", x.disk(0, 0), 0);
        for (int failure = 1; failure <= 2; failure++) {
            x.fail(0);
            if (failure == 1) {
                x.read(0, 1);
            }
            x.run(3);
            CHECK.due("failures", x.disk(0, 3), failure);
        }
        CHECK.due("it is not broken", x.disk(0, 0), 0);
    }

    private static Used withBrokenDisk() {
        Used x = new Used();
        x.set(0, 1);
        x.read(2, 5);
        x.read(3, 50);
        x.read(2, 6);
        for (int failure = 0; failure < 3; failure++) {
            CHECK.due("fail(2)", x.fail(2), 1);
            x.run(2);
        }
        return x;
    }

    private static void theThirdFailureBreaks() {
        Used x = withBrokenDisk();
        CHECK.due("it is broken", x.disk(2, 0), 3);
        CHECK.due("it has no current", x.disk(2, 1), 0);
        CHECK.due("three failures", x.disk(2, 3), 3);
        CHECK.due("no reads", x.disk(2, 5), 0);
        CHECK.due("no fault planned", x.disk(2, 6), 0);
        CHECK.due("three starts", x.disk(2, 7), 3);
        CHECK.due("broken disks", x.count(10), 1);
        CHECK.due("lost reads", x.count(6), 2);
        CHECK.due("waiting reads", x.count(3), 1);
        CHECK.due("answered reads", x.count(5), 0);
        CHECK.due("read 1 is there", x.readOf(1, 0), 3);
        CHECK.due("read 2 is gone", x.readOf(2, 0), -1);
        CHECK.due("current", x.count(1), 10 + 10);
        CHECK.due("read(2, 1)", x.read(2, 1), -4);
        CHECK.due("fail(2)", x.fail(2), -4);
        x.run(200);
        CHECK.due("it stays so", x.disk(2, 0), 3);
        x.set(5, 10);
        x.set(6, 0);
        x.set(7, 0);
        x.set(4, 5);
        x.run(2);
        CHECK.due("a blown fuse", x.count(11), 1);
        CHECK.due("leaves it so", x.disk(2, 0), 3);
    }

    private static void replaceTells() {
        Used x = new Used();
        CHECK.due("of one that stands by", x.replace(0), 0);
        CHECK.due("this is recorded", x.count(17), 1);
        x.fail(0);
        x.read(0, 1);
        x.run(7);
        x.fail(0);
        CHECK.due("one failure", x.disk(0, 3), 1);
        CHECK.due("starts of 0", x.disk(0, 7), 1);
        CHECK.due("replace(0)", x.replace(0), 0);
        CHECK.due("no failure", x.disk(0, 3), 0);
        CHECK.due("no starts", x.disk(0, 7), 0);
        CHECK.due("no fault planned", x.disk(0, 6), 0);
        CHECK.due("starts of the drawer", x.count(14), 1);
        CHECK.due("failures of the drawer", x.count(15), 1);
        CHECK.due("the read waits for it", x.disk(0, 5), 1);
        x.run(3);
        CHECK.due("of one that starts", x.replace(0), 1);
        CHECK.due("no start goes on", x.disk(0, 2), 0);
        CHECK.due("nothing failed by that", x.count(15), 1);
        CHECK.due("it stands by", x.disk(0, 0), 0);
        x.run(9);
        CHECK.due("idle ticks", x.disk(0, 4), 2);
        CHECK.due("of one that spins", x.replace(0), 2);
        CHECK.due("it is idle no more", x.disk(0, 4), 0);
        CHECK.due("it stands by", x.disk(0, 0), 0);
    }

    private static void replaceWhileReading() {
        Used x = new Used();
        x.read(6, 10);
        x.read(7, 10);
        x.read(6, 20);
        x.run(9);
        CHECK.due("left of 0", x.readOf(0, 2), 7);
        CHECK.due("replace(6)", x.replace(6), 2);
        CHECK.due("from its beginning", x.readOf(0, 2), 10);
        CHECK.due("other disks go on", x.readOf(1, 2), 7);
        CHECK.due("both wait", x.disk(6, 5), 2);
        CHECK.due("nothing is lost", x.count(6), 0);
        CHECK.due("asked for as before", x.readOf(0, 4), 9);
        CHECK.due("read 0 comes first", x.answeredIn(0), 1 + 6 + 9);
        CHECK.due("read 2 behind it", x.answeredIn(2), 1 + 6 + 29);
    }

    private static void replaceBroken() {
        Used x = withBrokenDisk();
        CHECK.due("replace(2)", x.replace(2), 3);
        CHECK.due("it stands by", x.disk(2, 0), 0);
        CHECK.due("no failures", x.disk(2, 3), 0);
        CHECK.due("lost reads stay lost", x.count(3), 1);
        CHECK.due("counted as lost", x.count(6), 2);
        CHECK.due("no disk is broken", x.count(10), 0);
        CHECK.due("read(2, 1)", x.read(2, 1), 3);
        CHECK.due("fail(2)", x.fail(2), 1);
        CHECK.due("two undone", x.undo() + x.undo(), 3 + 2);
        CHECK.due("replace undone", x.undo(), 1);
        CHECK.due("broken again", x.disk(2, 0), 3);
    }
}
