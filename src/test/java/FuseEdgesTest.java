/** Edges of A TICK (1. and 6.) and of promise 7: the fuse that bears, blows, and is put in anew. */
public final class FuseEdgesTest {
    private static final Check CHECK = new Check("FuseEdgesTest");

    public static void main(String[] args) {
        aboveTheFuseAndMore();
        aboveTheFuseAlone();
        hotForLonger();
        hotTicksBecomeZero();
        moreAndHotInOneTick();
        currentsOfThen();
        blownStaysSo();
        hotTicksOfTheNewOne();
        newFuseWhileBlown();
        newFuseAnswersTheCurrent();
        newFuseInTheNextTick();
        cutOffStandsBy();
        cutOffLosesWhatWasRead();
        cutOffGoesOnWithTheCount();
        lastTicksAndTheFuse();
        thirdFailureAndTheFuse();
        greatestCurrentWhileBlown();
        CHECK.end();
    }

    /** All stand by, with 12 in all. */
    private static Used fuseOf(int fuse, int more, int ticks) {
        Used x = new Used();
        x.set(5, fuse);
        x.set(6, more);
        x.set(7, ticks);
        return x;
    }

    /** Hot ticks, 100 if the fuse is blown, and 1000 for each that blew so far. */
    private static void fuse(String when, Used x, int due) {
        CHECK.due(when, x.count(12) + 100 * x.count(11) + 1000 * x.count(13), due);
    }

    private static final int BLOWN = 1100;

    private static void aboveTheFuseAndMore() {
        CHECK.sentence("The fuse: if the current of now (by what the disks do then) is above the fuse and what it "
            + "bears more, it blows.");
        Used x = fuseOf(10, 3, 20);
        x.run(1);
        fuse("12 is below 10 + 3", x, 1);
        x = fuseOf(10, 2, 20);
        x.run(1);
        fuse("12 is as much as 10 + 2", x, 1);
        x = fuseOf(10, 1, 20);
        x.run(1);
        fuse("12 is above 10 + 1", x, BLOWN);
        x = fuseOf(12, 0, 20);
        x.run(1);
        fuse("12 is as much as 12 + 0", x, 0);
        x = fuseOf(11, 0, 20);
        x.run(1);
        fuse("12 is above 11 + 0", x, BLOWN);
    }

    private static void aboveTheFuseAlone() {
        CHECK.sentence("If it is above the fuse alone, the count of its hot ticks grows by 1");
        Used x = fuseOf(13, 100, 20);
        x.run(1);
        fuse("12 is below 13", x, 0);
        x.set(5, 12);
        x.run(1);
        fuse("12 is as much as 12", x, 0);
        x.set(5, 11);
        x.run(1);
        fuse("12 is above 11", x, 1);
        x.run(1);
        fuse("again", x, 2);
    }

    private static void hotForLonger() {
        CHECK.sentence("and if that is greater than the ticks for which it bears that, it blows");
        for (int ticks : new int[] {0, 1, 2, 19, 20}) {
            Used x = fuseOf(11, 1, ticks);
            for (int hot = 1; hot <= ticks; hot++) {
                x.run(1);
                fuse("hot tick " + hot + " of " + ticks, x, hot);
            }
            x.run(1);
            fuse("one more than " + ticks, x, BLOWN);
        }
        Used y = fuseOf(11, 1, 9);
        y.run(5);
        y.set(7, 5);
        fuse("as many as are borne now", y, 5);
        y.set(7, 3);
        fuse("more than are borne now", y, 5);
        y.run(1);
        fuse("in the next tick it blows", y, BLOWN);
    }

    private static void hotTicksBecomeZero() {
        CHECK.sentence("otherwise the count becomes 0.");
        Used x = fuseOf(11, 1, 3);
        x.run(3);
        fuse("hot", x, 3);
        x.set(5, 12);
        fuse("not before a tick", x, 3);
        x.run(1);
        fuse("cool", x, 0);
        x.set(5, 11);
        x.run(3);
        fuse("hot anew", x, 3);
        x.set(5, 12);
        x.set(5, 11);
        x.run(1);
        fuse("cool for no tick", x, BLOWN);
    }

    private static void moreAndHotInOneTick() {
        CHECK.sentence("it blows.");
        Used x = fuseOf(11, 1, 2);
        x.run(2);
        x.set(6, 0);
        x.run(1);
        fuse("hot for too long, and above all: one fuse", x, BLOWN);
        Used y = fuseOf(11, 1, 2);
        y.run(1);
        y.set(6, 0);
        y.run(1);
        fuse("above all before it was hot for long", y, BLOWN);
    }

    private static void currentsOfThen() {
        CHECK.sentence("The fuse: if the current of now (by what the disks do then) is above the fuse and what it "
            + "bears more, it blows.");
        Used x = fuseOf(31, 0, 0);
        x.read(0, 1);
        x.run(6);
        fuse("a start is as much as the fuse", x, 0);
        x.set(1, 50);
        x.run(1);
        fuse("a start that ended in the tick has no part in it", x, 0);
        Used y = fuseOf(31, 0, 0);
        y.read(0, 1);
        y.run(6);
        y.set(2, 20);
        y.set(3, 20);
        y.run(1);
        fuse("nor has a read that was answered in it", y, 0);
        y.read(0, 2);
        y.run(1);
        fuse("one that goes on has", y, BLOWN);
        Used z = fuseOf(90, 0, 0);
        z.read(0, 1);
        z.set(5, 31);
        z.set(1, 20);
        z.run(1);
        fuse("a start that began in it, too", z, 0);
        z.undo();
        z.set(5, 30);
        z.run(1);
        fuse("but it begins only as the fuse bears it", z, 0);
    }

    private static void blownStaysSo() {
        CHECK.sentence("A blown fuse stays so, with 0 hot ticks, until it is put in anew; it does not blow again.");
        Used x = fuseOf(10, 0, 20);
        x.run(1);
        fuse("blown", x, BLOWN);
        x.run(1);
        fuse("in a tick above all", x, BLOWN);
        x.set(6, 100);
        x.run(200);
        fuse("in hot ticks", x, BLOWN);
        x.set(5, 500);
        x.run(1);
        fuse("in cool ones", x, BLOWN);
        CHECK.due("fuse()", x.fuse(), 12);
        fuse("put in anew", x, 1000);
        x.set(5, 10);
        x.set(6, 0);
        x.run(1);
        fuse("the new one blows", x, 2100);
    }

    private static void hotTicksOfTheNewOne() {
        CHECK.sentence("Puts a new fuse in.");
        CHECK.sentence("A blown fuse stays so, with 0 hot ticks, until it is put in anew");
        Used x = fuseOf(11, 1, 2);
        x.run(3);
        fuse("blown by heat", x, BLOWN);
        x.run(3);
        x.fuse();
        x.run(2);
        fuse("the new one bears as many hot ticks", x, 1002);
        x.run(1);
        fuse("and no more", x, 2100);
    }

    private static void newFuseWhileBlown() {
        CHECK.sentence("Returns the current of now; NONE if the fuse is not blown.");
        Used x = fuseOf(11, 1, 2);
        CHECK.due("a new drawer", x.fuse(), -5);
        x.run(2);
        CHECK.due("a hot one", x.fuse(), -5);
        fuse("stays hot", x, 2);
        CHECK.due("not recorded", x.count(17), 4);
        x.run(1);
        CHECK.due("a blown one", x.fuse(), 12);
        CHECK.due("a new one", x.fuse(), -5);
        x.undo();
        fuse("undone", x, BLOWN);
        CHECK.due("again", x.fuse(), 12);
    }

    private static void newFuseAnswersTheCurrent() {
        CHECK.sentence("Returns the current of now; NONE if the fuse is not blown.");
        Used x = new Used();
        x.read(0, 9);
        x.run(1);
        Drawers.blow(x);
        CHECK.due("before the next tick the disk starts", x.fuse(), 31);
        x.undo();
        x.run(1);
        CHECK.due("behind it all stand by", x.fuse(), 12);
        x.undo();
        x.set(4, 0);
        CHECK.due("a current of 0 is no error", x.fuse(), 0);
        CHECK.due("and is recorded", x.count(17), 4);
        fuse("not blown", x, 1000);
    }

    private static void newFuseInTheNextTick() {
        CHECK.sentence("If the fuse is blown, all disks that start or spin stand by");
        Used x = new Used();
        x.read(0, 50);
        x.run(9);
        Drawers.blow(x);
        CHECK.due("left", x.readOf(0, 2), 46);
        x.set(5, 90);
        x.fuse();
        x.run(1);
        CHECK.due("with a new one in time the read goes on", x.readOf(0, 2), 45);
        x.undo();
        x.undo();
        x.run(1);
        x.fuse();
        CHECK.due("a tick too late", x.readOf(0, 2), 50);
        x.run(1);
        CHECK.due("the disk starts anew", x.disk(0, 0), 1);
    }

    /** A blown fuse, and disk 0 broken, 1 that spins idle, 2 that reads, 3 that starts with its last tick left. */
    private static Used cutOff() {
        Used x = Drawers.broken(0);
        x.set(9, 0);
        x.read(1, 1);
        x.read(2, 9);
        x.run(4);
        x.set(0, 3);
        x.fail(3);
        x.read(3, 9);
        x.run(2);
        Drawers.blow(x);
        fuse("blown", x, BLOWN);
        int[] due = {3, 2, 2, 1, 0};
        for (int disk = 0; disk < due.length; disk++) {
            CHECK.due("disk(" + disk + ", 0)", x.disk(disk, 0), due[disk]);
        }
        return x;
    }

    private static void cutOffStandsBy() {
        CHECK.sentence("If the fuse is blown, all disks that start or spin stand by");
        Used x = cutOff();
        CHECK.due("idle ticks of 1", x.disk(1, 4), 5);
        CHECK.due("ticks left of the start of 3", x.disk(3, 2), 1);
        x.run(1);
        CHECK.due("0 is broken", x.disk(0, 0), 3);
        CHECK.due("the others stand by", x.count(7), 11);
        CHECK.due("idle ticks of 1", x.disk(1, 4), 0);
        CHECK.due("ticks left of the start of 3", x.disk(3, 2), 0);
        CHECK.due("failed starts of 3", x.disk(3, 3), 0);
        CHECK.due("failed starts of all", x.count(15), 3);
        CHECK.due("its fault is planned", x.disk(3, 6), 1);
        CHECK.due("current", x.count(1), 11);
    }

    private static void cutOffLosesWhatWasRead() {
        CHECK.sentence("(a start that was cut off does not count as failed; what was read of a read so far is lost)");
        Used x = cutOff();
        CHECK.due("left before", x.readOf(2, 2), 3);
        x.run(1);
        CHECK.due("left behind", x.readOf(2, 2), 9);
        CHECK.due("its ticks", x.readOf(2, 1), 9);
        CHECK.due("asked for as long ago", x.readOf(2, 4), 8);
        CHECK.due("no read is lost", x.count(6), 1);
        CHECK.due("two wait", x.count(3), 2);
        CHECK.due("none answered by that", x.count(5), 1);
    }

    private static void cutOffGoesOnWithTheCount() {
        CHECK.sentence("and the tick goes on with 5.");
        Used x = cutOff();
        int ticks = x.count(0);
        int starts = x.count(14);
        x.set(5, 500);
        x.run(1);
        CHECK.due("the count of ticks", x.count(0), ticks + 1);
        CHECK.due("no disk starts in it", x.count(8), 0);
        x.run(200);
        CHECK.due("nor later", x.count(14), starts);
        CHECK.due("none could", x.couldStart(), 0);
        x.fuse();
        CHECK.due("with a new fuse three could", x.couldStart(), 3);
        x.run(1);
        CHECK.due("and those with reads do", x.count(8), 2);
    }

    private static void lastTicksAndTheFuse() {
        CHECK.sentence("behind its last one the read is answered.");
        Used x = new Used();
        x.read(0, 2);
        x.run(7);
        Drawers.blow(x);
        CHECK.due("a read's last tick and the fuse: it is answered", x.count(5), 1);
        fuse("and the fuse blows", x, BLOWN);
        Used y = new Used();
        y.read(0, 3);
        y.run(7);
        Drawers.blow(y);
        CHECK.due("a tick before its last one", y.readOf(0, 2), 1);
        CHECK.due("it is not answered", y.run(1), 0);
        CHECK.due("but begins anew", y.readOf(0, 2), 3);
        Used z = new Used();
        z.read(0, 9);
        z.run(6);
        Drawers.blow(z);
        CHECK.due("a start's last tick and the fuse: it spins", z.disk(0, 0), 2);
        CHECK.due("and reads", z.readOf(0, 2), 8);
        z.run(1);
        CHECK.due("then it stands by", z.disk(0, 0) * 10 + z.readOf(0, 2), 9);
    }

    private static void thirdFailureAndTheFuse() {
        CHECK.sentence("with the third one it is broken: it stays so, and all its reads are lost.");
        Used x = Drawers.failedTwice(0);
        x.fail(0);
        x.run(1);
        Drawers.blow(x);
        CHECK.due("both in one tick: it is broken", x.disk(0, 0), 3);
        fuse("and the fuse is blown", x, BLOWN);
        x.run(1);
        CHECK.due("it stays so", x.disk(0, 0), 3);
        Used y = Drawers.failedTwice(0);
        y.set(0, 2);
        y.fail(0);
        y.run(1);
        Drawers.blow(y);
        CHECK.due("a tick earlier: it starts", y.disk(0, 0), 1);
        y.run(1);
        CHECK.due("cut off, it is not broken", y.disk(0, 0), 0);
        CHECK.due("two failed starts", y.disk(0, 3), 2);
        CHECK.due("its read waits", y.count(3), 1);
        y.fuse();
        y.set(5, 90);
        y.run(3);
        CHECK.due("the next start breaks it", y.disk(0, 0), 3);
    }

    private static void greatestCurrentWhileBlown() {
        CHECK.sentence("2 for the greatest current behind any tick so far");
        Used x = Drawers.blown();
        CHECK.due("as the fuse blew", x.count(2), 60);
        x.run(1);
        CHECK.due("less", x.count(2), 60);
        x.set(4, 5);
        x.run(1);
        CHECK.due("as much", x.count(2), 60);
        Used y = new Used();
        y.set(5, 10);
        y.set(6, 0);
        y.run(1);
        CHECK.due("as the fuse blew", y.count(2), 12);
        y.set(4, 3);
        CHECK.due("not before a tick", y.count(2), 12);
        y.run(1);
        CHECK.due("with a blown fuse, too", y.count(2), 36);
    }
}
