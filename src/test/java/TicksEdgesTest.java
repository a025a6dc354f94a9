/** Edges of A TICK (2. to 5.) and of promise 8: starts, reads, idle ticks, new starts, and what falls into one tick. */
public final class TicksEdgesTest {
    private static final Check CHECK = new Check("TicksEdgesTest");

    public static void main(String[] args) {
        ticksOfRun();
        lastTick();
        answeredInThem();
        countOfTicks();
        lastTickOfAStart();
        failedStartsAreForgotten();
        thirdFailedStart();
        allItsReadsAreLost();
        readsOfTheTickOfTheStart();
        lastTickOfARead();
        idleByATick();
        idleForLongEnough();
        restsAndStartsAnew();
        starterNeedsARead();
        starterNeedsANumber();
        startersEndingMakeRoom();
        starterNeedsCurrent();
        readsEndingMakeRoom();
        restingMakesRoom();
        failedOneWaitsATick();
        byDisks();
        CHECK.end();
    }

    private static void ticksOfRun() {
        CHECK.sentence("Lets ticks pass.");
        CHECK.sentence("`ticks`: 1 to 200");
        Used x = new Used();
        for (int ticks : new int[] {Integer.MIN_VALUE, -1, 0, 201, 202, Integer.MAX_VALUE}) {
            CHECK.due("run(" + ticks + ")", x.run(ticks), -2);
            CHECK.due("count of ticks", x.count(0), 0);
        }
        CHECK.due("run(1)", x.run(1), 0);
        CHECK.due("run(2)", x.run(2), 0);
        CHECK.due("run(199)", x.run(199), 0);
        CHECK.due("run(200)", x.run(200), 0);
        CHECK.due("count of ticks", x.count(0), 1 + 2 + 199 + 200);
    }

    private static void lastTick() {
        CHECK.sentence("FULL if the count of ticks would be more than 99999.");
        Used x = Drawers.behind(99799);
        CHECK.due("run(200), to 99999", x.run(200), 0);
        CHECK.due("count of ticks", x.count(0), 99999);
        CHECK.due("run(1), to 100000", x.run(1), -3);
        CHECK.due("run(200)", x.run(200), -3);
        CHECK.due("a bad value ahead of FULL", x.run(201), -2);
        CHECK.due("a bad value ahead of FULL", x.run(0), -2);
        x.undo();
        x.run(1);
        CHECK.due("run(200), from 99800", x.run(200), -3);
        CHECK.due("none of them passed", x.count(0), 99800);
        CHECK.due("run(199)", x.run(199), 0);
        CHECK.due("count of ticks", x.count(0), 99999);
        x.undo();
        CHECK.due("run(198)", x.run(198), 0);
        CHECK.due("run(2)", x.run(2), -3);
        CHECK.due("run(1)", x.run(1), 0);
        CHECK.due("a read at the end", x.read(0, 1), 0);
        CHECK.due("waits", x.run(1), -3);
        CHECK.due("but is told as if ticks passed", x.answeredIn(0), 7);
    }

    private static void answeredInThem() {
        CHECK.sentence("Returns how many reads are answered in them; BAD_VALUE; FULL if the count of ticks would be "
            + "more than 99999.");
        Used x = new Used();
        x.read(0, 1);
        x.read(0, 1);
        x.read(1, 1);
        x.read(2, 3);
        CHECK.due("none in six", x.run(6), 0);
        CHECK.due("two in one", x.run(1), 2);
        CHECK.due("one", x.run(1), 1);
        CHECK.due("one", x.run(1), 1);
        CHECK.due("none", x.run(1), 0);
        x.undo();
        x.undo();
        x.undo();
        x.undo();
        CHECK.due("four in nine", x.run(9), 4);
        CHECK.due("all", x.count(5), 4);
        Used y = Drawers.failedTwice(0);
        y.fail(0);
        y.read(1, 1);
        CHECK.due("a lost one is not answered", y.run(2), 1);
        CHECK.due("lost", y.count(6), 1);
    }

    private static void countOfTicks() {
        CHECK.sentence("The count of ticks grows by 1 (0 at first).");
        Used x = new Used();
        CHECK.due("at first", x.count(0), 0);
        x.run(1);
        CHECK.due("behind one", x.count(0), 1);
        Used y = Drawers.blown();
        CHECK.due("behind the tick in which the fuse blew", y.count(0), 1);
        y.run(1);
        CHECK.due("behind one with a blown fuse", y.count(0), 2);
    }

    private static void lastTickOfAStart() {
        CHECK.sentence("Starts: each disk that starts has one tick less; with the last one it fails if a fault was "
            + "planned for it (see fail()), and spins otherwise (its failed starts are 0 then, its idle ticks, too).");
        Used x = new Used();
        x.set(0, 2);
        x.fail(1);
        x.read(0, 9);
        x.read(1, 9);
        x.run(1);
        CHECK.due("two left of 0", x.disk(0, 2), 2);
        CHECK.due("two left of 1", x.disk(1, 2), 2);
        x.run(1);
        CHECK.due("one left of 0", x.disk(0, 2), 1);
        CHECK.due("one left of 1", x.disk(1, 2), 1);
        x.run(1);
        CHECK.due("0 spins", x.disk(0, 0), 2);
        CHECK.due("idle ticks of 0", x.disk(0, 4), 0);
        CHECK.due("failed starts of 0", x.disk(0, 3), 0);
        CHECK.due("1 stands by", x.disk(1, 0), 0);
        CHECK.due("failed starts of 1", x.disk(1, 3), 1);
        CHECK.due("failed ones of all", x.count(15), 1);
        CHECK.due("its read waits", x.readOf(1, 2), 9);
    }

    private static void failedStartsAreForgotten() {
        CHECK.sentence("its failed starts are 0 then");
        Used x = Drawers.failedTwice(2);
        CHECK.due("two", x.disk(2, 3), 2);
        x.run(1);
        CHECK.due("two, as it starts", x.disk(2, 3), 2);
        x.run(1);
        CHECK.due("none, as it spins", x.disk(2, 3), 0);
        x.set(9, 1);
        x.run(9);
        CHECK.due("it rests", x.disk(2, 0), 0);
        for (int failure = 1; failure <= 2; failure++) {
            x.read(2, 1);
            x.fail(2);
            x.run(2);
            CHECK.due("two more do not break it", x.disk(2, 3) * 10 + x.disk(2, 0), failure * 10);
        }
        CHECK.due("failed starts of all", x.count(15), 4);
        x.fail(2);
        x.run(2);
        CHECK.due("a third one does", x.disk(2, 0), 3);
    }

    private static void thirdFailedStart() {
        CHECK.sentence("A start that failed: the disk stands by, and its count of failed starts grows by 1; with the "
            + "third one it is broken: it stays so, and all its reads are lost.");
        Used x = Drawers.failedTwice(2);
        CHECK.due("behind the second it stands by", x.disk(2, 0), 0);
        CHECK.due("its read waits", x.disk(2, 5), 1);
        CHECK.due("none is lost", x.count(6), 0);
        x.fail(2);
        x.run(1);
        CHECK.due("the third start begins", x.disk(2, 0), 1);
        CHECK.due("with its read", x.count(3), 1);
        x.run(1);
        CHECK.due("behind the third it is broken", x.disk(2, 0), 3);
        CHECK.due("failed starts", x.disk(2, 3), 3);
        CHECK.due("lost", x.count(6), 1);
        CHECK.due("no read waits", x.count(3), 0);
        x.run(200);
        CHECK.due("it stays so", x.disk(2, 0), 3);
        Drawers.blow(x);
        x.run(1);
        CHECK.due("also with a blown fuse", x.disk(2, 0), 3);
        CHECK.due("the others stand by", x.count(7), 11);
        x.fuse();
        CHECK.due("and with a new one", x.disk(2, 0), 3);
    }

    private static void allItsReadsAreLost() {
        CHECK.sentence("it stays so, and all its reads are lost.");
        Used x = Drawers.failedTwice(2);
        x.drop(0);
        x.read(2, 1);
        x.fail(2);
        x.run(1);
        x.drop(1);
        x.read(3, 9);
        x.run(1);
        CHECK.due("broken without a read", x.disk(2, 0), 3);
        CHECK.due("none is lost", x.count(6), 0);
        Used y = Drawers.failedTwice(2);
        for (int read = 1; read < 30; read++) {
            y.read(read == 13 ? 3 : 2, 50);
        }
        y.fail(2);
        y.run(2);
        CHECK.due("29 are lost", y.count(6), 29);
        CHECK.due("the one of another disk is not", y.readOf(13, 3), 0);
        CHECK.due("and has gone on", y.readOf(13, 2), 49);
        CHECK.due("one waits", y.count(3), 1);
    }

    private static void readsOfTheTickOfTheStart() {
        CHECK.sentence("Reads: each disk that spins, and has a read, goes on with it by a tick; behind its last one "
            + "the read is answered.");
        Used x = new Used();
        x.read(0, 2);
        x.run(6);
        CHECK.due("it starts", x.readOf(0, 2), 2);
        x.run(1);
        CHECK.due("in the last tick of the start the read begins", x.readOf(0, 2), 1);
        CHECK.due("and then", x.run(1), 1);
        Used y = new Used();
        y.set(0, 1);
        y.read(0, 1);
        y.run(1);
        CHECK.due("a start and a read of one tick each", y.run(1), 1);
    }

    private static void lastTickOfARead() {
        CHECK.sentence("behind its last one the read is answered.");
        Used x = new Used();
        x.read(0, 2);
        x.run(7);
        CHECK.due("before its last tick it is there", x.readOf(0, 2), 1);
        CHECK.due("answered so far", x.count(5), 0);
        CHECK.due("the last one", x.run(1), 1);
        CHECK.due("it is gone", x.readOf(0, 2), -1);
        CHECK.due("answered", x.count(5), 1);
        CHECK.due("none waits", x.count(3), 0);
        CHECK.due("none of the disk", x.disk(0, 5), 0);
        CHECK.due("its ticks", x.count(16), 8);
    }

    private static void idleByATick() {
        CHECK.sentence("Its idle ticks are 0 by that. A disk that spins without a read was idle for one tick more");
        Used x = new Used();
        x.read(0, 1);
        x.run(7);
        CHECK.due("in the tick of its last read it is not idle", x.disk(0, 4), 0);
        x.run(1);
        CHECK.due("in the next one it is", x.disk(0, 4), 1);
        x.run(38);
        CHECK.due("for long", x.disk(0, 4), 39);
        x.read(0, 1);
        CHECK.due("still, as it is asked", x.disk(0, 4), 39);
        x.run(1);
        CHECK.due("a read ends that", x.disk(0, 4), 0);
        x.read(0, 9);
        x.run(3);
        CHECK.due("while it reads it is not idle", x.disk(0, 4), 0);
        x.drop(2);
        CHECK.due("nor by a read that is taken back", x.disk(0, 4), 0);
        x.run(1);
        CHECK.due("but in the next tick", x.disk(0, 4), 1);
        Used y = new Used();
        y.read(0, 1);
        y.run(6);
        y.drop(0);
        y.run(1);
        CHECK.due("it spins without a read", y.disk(0, 0), 2);
        CHECK.due("and is idle in the tick in which its start ended", y.disk(0, 4), 1);
    }

    private static void idleForLongEnough() {
        CHECK.sentence("as its idle ticks are at least as many as those behind which a disk rests, it stands by.");
        Used x = new Used();
        x.set(9, 5);
        x.read(0, 1);
        x.run(7);
        x.run(4);
        CHECK.due("one less than as many", x.disk(0, 0) * 10 + x.disk(0, 4), 24);
        x.keep();
        x.run(1);
        CHECK.due("as many", x.disk(0, 0), 0);
        CHECK.due("it is idle no more", x.disk(0, 4), 0);
        x.restore();
        x.set(9, 6);
        x.run(1);
        CHECK.due("raised in time", x.disk(0, 0) * 10 + x.disk(0, 4), 25);
        x.restore();
        x.set(9, 2);
        CHECK.due("lowered: more than as many", x.disk(0, 0), 2);
        x.run(1);
        CHECK.due("in the next tick it stands by", x.disk(0, 0), 0);
        x.restore();
        x.set(9, 0);
        x.run(200);
        CHECK.due("never", x.disk(0, 0) * 1000 + x.disk(0, 4), 2204);
        Used y = new Used();
        y.set(9, 1);
        y.read(0, 1);
        y.run(6);
        y.drop(0);
        y.run(1);
        CHECK.due("at the end of its start, if one tick is enough", y.disk(0, 0), 0);
        CHECK.due("its start did not fail", y.count(15), 0);
    }

    private static void restsAndStartsAnew() {
        CHECK.sentence("it stands by.");
        Used x = new Used();
        x.set(9, 5);
        x.read(0, 1);
        x.run(11);
        x.read(0, 1);
        CHECK.due("asked in the tick before it would rest", x.run(1), 1);
        CHECK.due("starts", x.disk(0, 7), 1);
        x.run(5);
        x.read(0, 1);
        CHECK.due("asked as it rests", x.run(6), 0);
        CHECK.due("it starts anew", x.disk(0, 7), 2);
        CHECK.due("and answers", x.run(1), 1);
    }

    private static void starterNeedsARead() {
        CHECK.sentence("New starts: each disk that stands by, and has a read, starts");
        Used x = new Used();
        x.run(5);
        CHECK.due("none has a read", x.count(14), 0);
        x.read(11, 1);
        CHECK.due("not before a tick", x.count(8), 0);
        x.run(1);
        CHECK.due("the one that has", x.disk(11, 0), 1);
        CHECK.due("one start", x.count(14), 1);
        x.read(11, 1);
        x.run(1);
        CHECK.due("one that starts does not start", x.count(14), 1);
        x.run(20);
        x.read(11, 1);
        x.run(1);
        CHECK.due("nor one that spins", x.count(14), 1);
    }

    private static Used asked(int disks, int atOnce) {
        Used x = new Used();
        x.set(5, 500);
        x.set(8, atOnce);
        for (int disk = 0; disk < disks; disk++) {
            x.read(disk, 50);
        }
        return x;
    }

    private static void starterNeedsANumber() {
        CHECK.sentence("if fewer disks than allowed at once start already");
        Used x = asked(4, 2);
        x.run(1);
        CHECK.due("two", x.count(8), 2);
        x.run(1);
        CHECK.due("as many as allowed start already", x.count(8), 2);
        x.set(8, 3);
        x.run(1);
        CHECK.due("one fewer", x.count(8), 3);
        x.set(8, 2);
        x.run(1);
        CHECK.due("more than allowed go on", x.count(8), 3);
        x.run(3);
        CHECK.due("two spin", x.count(9), 2);
        CHECK.due("the last one starts beside the third", x.count(8), 2);
    }

    private static void startersEndingMakeRoom() {
        CHECK.sentence("These things happen in a tick, in this order (always by disks, from 0 on):");
        Used x = asked(2, 1);
        x.run(6);
        CHECK.due("one tick is left", x.disk(0, 2), 1);
        CHECK.due("the other one waits", x.disk(1, 0), 0);
        x.run(1);
        CHECK.due("as the one spins", x.disk(0, 0), 2);
        CHECK.due("the other one starts, in the same tick", x.disk(1, 0), 1);
        Used y = asked(2, 1);
        y.fail(0);
        y.run(7);
        CHECK.due("as the one fails", y.disk(0, 3), 1);
        CHECK.due("the other one starts, too", y.disk(1, 0), 1);
        y.run(1);
        CHECK.due("and the one waits for it", y.disk(0, 0), 0);
    }

    private static void starterNeedsCurrent() {
        CHECK.sentence("and the current of now, with its start in the place of its standing by, is at most the fuse.");
        int[][] due = {{30, 0}, {31, 1}, {32, 1}, {49, 1}, {50, 2}, {51, 2}, {68, 2}, {69, 3}};
        for (int[] each : due) {
            Used x = asked(4, 12);
            x.set(5, each[0]);
            x.run(1);
            CHECK.due("starts with a fuse of " + each[0], x.count(8), each[1]);
            CHECK.due("it is not hot", x.count(12), 0);
        }
        Used y = asked(12, 12);
        y.set(4, 5);
        y.set(1, 1);
        y.set(6, 100);
        y.set(5, 55);
        y.run(1);
        CHECK.due("56 is above 55", y.count(8), 0);
        y.set(5, 56);
        y.run(1);
        CHECK.due("each start leaves more for the next one", y.count(8), 12);
    }

    private static void readsEndingMakeRoom() {
        CHECK.sentence("the current of now, with its start in the place of its standing by, is at most the fuse.");
        Used x = new Used();
        x.read(0, 2);
        x.run(7);
        x.set(5, 10 + 6 + 20);
        x.read(1, 1);
        CHECK.due("a read takes too much", x.couldStart(), 0);
        x.run(1);
        CHECK.due("behind its last tick another disk starts in the same tick", x.disk(1, 0), 1);
        x.undo();
        x.undo();
        x.read(0, 1);
        x.read(1, 1);
        x.run(1);
        CHECK.due("but not as another read of the disk waits", x.disk(1, 0), 0);
        Used y = new Used();
        y.read(0, 1);
        y.set(5, 31);
        y.run(6);
        y.read(1, 1);
        y.set(5, 36);
        y.run(1);
        CHECK.due("as a disk spins and has read, another one starts in the same tick", y.disk(1, 0), 1);
    }

    private static void restingMakesRoom() {
        CHECK.sentence("as its idle ticks are at least as many as those behind which a disk rests, it stands by.");
        Used x = new Used();
        x.set(9, 2);
        x.set(5, 31);
        x.read(0, 1);
        x.run(8);
        x.read(1, 1);
        CHECK.due("one that spins takes too much", x.couldStart(), 0);
        x.run(1);
        CHECK.due("it rests", x.disk(0, 0), 0);
        CHECK.due("and another one starts, in the same tick", x.disk(1, 0), 1);
    }

    private static void failedOneWaitsATick() {
        CHECK.sentence("A disk whose start failed in this tick does not start in it.");
        Used x = new Used();
        x.read(3, 1);
        x.fail(3);
        x.run(7);
        CHECK.due("it does not start", x.disk(3, 0), 0);
        CHECK.due("starts", x.disk(3, 7), 1);
        CHECK.due("though it could", x.couldStart(), 3);
        x.run(1);
        CHECK.due("in the next tick it does", x.disk(3, 0), 1);
        CHECK.due("starts", x.disk(3, 7), 2);
        Used y = asked(5, 1);
        y.drop(4);
        y.fail(0);
        y.run(7);
        CHECK.due("a later one starts in its place", y.disk(1, 0), 1);
        y.fail(1);
        y.run(6);
        CHECK.due("as that one fails, the first is tried again", y.disk(0, 0), 1);
        CHECK.due("and the third waits", y.disk(2, 7), 0);
    }

    private static void byDisks() {
        CHECK.sentence("These things happen in a tick, in this order (always by disks, from 0 on):");
        Used x = new Used();
        x.set(8, 2);
        x.read(11, 1);
        x.read(5, 1);
        x.read(0, 1);
        x.read(8, 1);
        x.run(1);
        CHECK.due("0 starts", x.disk(0, 0), 1);
        CHECK.due("5 starts", x.disk(5, 0), 1);
        CHECK.due("8 waits", x.disk(8, 0), 0);
        CHECK.due("11 waits, though it was asked first", x.disk(11, 0), 0);
        Used y = asked(12, 12);
        y.set(5, 12 + 19);
        y.run(1);
        CHECK.due("the fuse bears one, the lowest", y.disk(0, 0), 1);
    }
}
