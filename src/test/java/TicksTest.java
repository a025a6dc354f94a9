/** Promises 7 and 8: fuse, run; and the order of things in a tick. */
public final class TicksTest {
    private static final Check CHECK = new Check("TicksTest");

    public static void main(String[] args) {
        wrongInputs();
        noMoreThanTheLastTick();
        startsWaitForOneAnother();
        startsWaitForTheFuse();
        disksRest();
        disksNeverRest();
        fuseBearsForAWhile();
        hotTicksBeginAnew();
        fuseBlowsAtOnce();
        aBlownFuseCutsOff();
        aNewFuseInTime();
        ticksOfAnsweredReads();
        CHECK.end();
    }

    private static void wrongInputs() {
        Used x = new Used();
        for (int ticks : new int[] {0, 201, -1, Integer.MIN_VALUE, Integer.MAX_VALUE}) {
            CHECK.due("run(" + ticks + ")", x.run(ticks), -2);
        }
        CHECK.due("fuse()", x.fuse(), -5);
        CHECK.due("no tick passed", x.count(0), 0);
        CHECK.due("nothing is recorded", x.count(17), 0);
        CHECK.due("run(1)", x.run(1), 0);
        CHECK.due("run(200)", x.run(200), 0);
        CHECK.due("ticks", x.count(0), 201);
    }

    private static void noMoreThanTheLastTick() {
        Used x = new Used();
        Check.write(x, "run 200;run 200;run 200;run 200;run 200;run 200;run 200;run 200;run 200;run 200");
        for (int turn = 0; turn < 49; turn++) {
            CHECK.due("turn " + turn, x.perform(), 10);
        }
        CHECK.due("ticks", x.count(0), 98000);
        CHECK.due("100000 would be too many", x.perform(), -4);
        CHECK.due("none of them passed", x.count(0), 98000);
        for (int turn = 0; turn < 9; turn++) {
            x.run(200);
        }
        CHECK.due("run(200)", x.run(200), -3);
        CHECK.due("run(201)", x.run(201), -2);
        CHECK.due("run(198)", x.run(198), 0);
        CHECK.due("run(2)", x.run(2), -3);
        CHECK.due("run(1)", x.run(1), 0);
        CHECK.due("ticks", x.count(0), 99999);
        CHECK.due("run(1) at the end", x.run(1), -3);
        x.read(0, 1);
        CHECK.due("what would come is told all the same", x.answeredIn(0), 7);
    }

    private static void startsWaitForOneAnother() {
        Used x = new Used();
        x.set(5, 500);
        x.set(8, 2);
        for (int disk = 11; disk >= 0; disk--) {
            x.read(disk, 50);
        }
        x.run(1);
        CHECK.due("two start", x.count(8), 2);
        CHECK.due("disk 0", x.disk(0, 0), 1);
        CHECK.due("disk 1", x.disk(1, 0), 1);
        CHECK.due("disk 2", x.disk(2, 0), 0);
        x.run(5);
        CHECK.due("they still start", x.disk(0, 0), 1);
        x.run(1);
        CHECK.due("they spin", x.disk(0, 0), 2);
        CHECK.due("the next two start in the same tick", x.disk(3, 0), 1);
        CHECK.due("two start then", x.count(8), 2);
        CHECK.due("the read has gone on", x.readOf(11, 2), 49);
        CHECK.due("starts", x.count(14), 4);
        x.set(8, 3);
        x.run(1);
        CHECK.due("one more starts", x.count(8), 3);
    }

    private static void startsWaitForTheFuse() {
        Used x = new Used();
        x.set(8, 12);
        x.set(5, 11 + 20 + 19);
        for (int disk = 0; disk < 4; disk++) {
            x.read(disk, 1);
        }
        x.run(1);
        CHECK.due("two starts are as much as the fuse", x.count(8), 2);
        CHECK.due("current", x.count(1), 50);
        CHECK.due("the fuse is not hot", x.count(12), 0);
        x.undo();
        x.set(5, 49);
        x.run(1);
        CHECK.due("less allows one", x.count(8), 1);
        Used y = new Used();
        y.set(4, 5);
        y.set(1, 1);
        y.set(5, 56);
        y.set(8, 12);
        y.read(0, 1);
        y.run(1);
        CHECK.due("a start may take less than standing by", y.count(8), 1);
        CHECK.due("current then", y.count(1), 56);
        y.undo();
        y.set(5, 55);
        y.run(1);
        CHECK.due("but it must bear the rest", y.count(8), 0);
        Used z = new Used();
        z.set(0, 1);
        z.set(9, 500);
        z.read(0, 1);
        z.run(2);
        z.set(5, 11 + 6 + 19 - 1);
        z.read(1, 1);
        z.run(1);
        CHECK.due("one that spins counts", z.disk(1, 0), 0);
        z.set(5, 11 + 6 + 19 - 1);
        z.set(5, 36);
        z.read(0, 2);
        z.run(1);
        CHECK.due("one that reads counts for more", z.disk(1, 0), 0);
        z.run(1);
        CHECK.due("behind its read for less, in the same tick", z.disk(1, 0), 1);
    }

    private static void disksRest() {
        Used x = new Used();
        x.set(9, 3);
        x.read(0, 2);
        CHECK.due("answered", x.run(8), 1);
        CHECK.due("idle ticks are 0 behind a read", x.disk(0, 4), 0);
        x.run(2);
        CHECK.due("idle ticks", x.disk(0, 4), 2);
        CHECK.due("it spins", x.disk(0, 0), 2);
        x.read(0, 1);
        CHECK.due("a read ends that", x.run(1), 1);
        CHECK.due("idle ticks", x.disk(0, 4), 0);
        x.run(2);
        CHECK.due("it spins still", x.disk(0, 0), 2);
        x.run(1);
        CHECK.due("it rests", x.disk(0, 0), 0);
        CHECK.due("idle no more", x.disk(0, 4), 0);
        CHECK.due("current", x.count(1), 12);
        x.read(0, 1);
        CHECK.due("then it starts anew", x.run(6), 0);
        CHECK.due("and is asked in time", x.run(1), 1);
        CHECK.due("starts of the disk", x.disk(0, 7), 2);
    }

    private static void disksNeverRest() {
        Used x = new Used();
        x.set(9, 0);
        x.read(0, 1);
        x.run(7);
        for (int turn = 0; turn < 4; turn++) {
            x.run(200);
        }
        CHECK.due("it spins", x.disk(0, 0), 2);
        CHECK.due("idle ticks", x.disk(0, 4), 800);
        x.set(9, 500);
        CHECK.due("it spins until the next tick", x.disk(0, 0), 2);
        x.run(1);
        CHECK.due("it rests", x.disk(0, 0), 0);
        Used y = new Used();
        y.set(9, 500);
        y.read(0, 1);
        y.run(7);
        y.run(200);
        y.run(200);
        y.run(99);
        CHECK.due("499 idle ticks", y.disk(0, 4), 499);
        y.run(1);
        CHECK.due("it rests behind 500", y.disk(0, 0), 0);
    }

    /** A drawer in which one disk starts for long, with a current of 31. */
    private static Used starting() {
        Used x = new Used();
        x.set(0, 20);
        x.read(0, 5);
        x.run(1);
        CHECK.due("current", x.count(1), 31);
        return x;
    }

    private static void fuseBearsForAWhile() {
        Used x = starting();
        x.set(5, 30);
        for (int hot = 1; hot <= 3; hot++) {
            x.run(1);
            CHECK.due("hot ticks", x.count(12), hot);
            CHECK.due("not blown", x.count(11), 0);
        }
        x.run(1);
        CHECK.due("blown", x.count(11), 1);
        CHECK.due("no hot ticks", x.count(12), 0);
        CHECK.due("fuses blown", x.count(13), 1);
        CHECK.due("until the next tick the disk starts", x.disk(0, 0), 1);
        x.run(50);
        CHECK.due("it doesn't blow again", x.count(13), 1);
        CHECK.due("no hot ticks", x.count(12), 0);
        Used y = starting();
        y.set(7, 0);
        y.set(5, 31);
        y.run(1);
        CHECK.due("as much as the fuse is not above it", y.count(11), 0);
        y.set(5, 30);
        y.run(1);
        CHECK.due("it bears more for no tick", y.count(11), 1);
    }

    private static void hotTicksBeginAnew() {
        Used x = starting();
        x.set(5, 30);
        x.run(3);
        CHECK.due("hot ticks", x.count(12), 3);
        x.set(5, 31);
        x.run(1);
        CHECK.due("cool", x.count(12), 0);
        x.set(5, 30);
        x.run(3);
        CHECK.due("hot ticks anew", x.count(12), 3);
        CHECK.due("not blown", x.count(11), 0);
        x.set(7, 4);
        x.run(1);
        CHECK.due("more are borne", x.count(12), 4);
        CHECK.due("the blown one cools, the new one, too", x.run(1) + x.count(12), 0);
    }

    private static void fuseBlowsAtOnce() {
        Used x = starting();
        x.set(5, 21);
        x.run(1);
        CHECK.due("as much more as it bears", x.count(11), 0);
        CHECK.due("hot ticks", x.count(12), 1);
        x.set(5, 20);
        x.run(1);
        CHECK.due("more than that", x.count(11), 1);
        CHECK.due("no hot ticks", x.count(12), 0);
        x.set(6, 100);
        CHECK.due("fuse()", x.fuse(), 31);
        CHECK.due("a new one", x.count(11), 0);
        x.run(3);
        CHECK.due("its hot ticks begin with 0", x.count(12), 3);
        CHECK.due("fuse() is not possible then", x.fuse(), -5);
        x.set(6, 0);
        x.run(1);
        CHECK.due("fuses blown", x.count(13), 2);
    }

    private static void aBlownFuseCutsOff() {
        Used x = new Used();
        x.read(0, 10);
        x.read(0, 5);
        x.read(1, 10);
        x.run(9);
        x.fail(2);
        x.read(2, 10);
        x.run(2);
        CHECK.due("left of 0", x.readOf(0, 2), 5);
        x.set(1, 50);
        x.set(5, 10);
        x.run(1);
        CHECK.due("blown", x.count(11), 1);
        CHECK.due("left of 0", x.readOf(0, 2), 4);
        int peak = x.count(2);
        CHECK.due("greatest current", peak, 9 + 10 + 10 + 50);
        CHECK.due("run(1)", x.run(1), 0);
        CHECK.due("all stand by", x.count(7), 12);
        CHECK.due("no start goes on", x.disk(2, 2), 0);
        CHECK.due("it did not fail", x.disk(2, 3), 0);
        CHECK.due("nor is it counted so", x.count(15), 0);
        CHECK.due("its fault is still planned", x.disk(2, 6), 1);
        CHECK.due("what was read is lost", x.readOf(0, 2), 10);
        CHECK.due("of the other disk, too", x.readOf(2, 2), 10);
        CHECK.due("the reads wait", x.count(3), 4);
        CHECK.due("none is lost", x.count(6), 0);
        CHECK.due("current", x.count(1), 12);
        CHECK.due("ticks go on", x.count(0), 13);
        x.run(100);
        CHECK.due("nothing starts", x.count(14), 3);
        CHECK.due("couldStart()", x.couldStart(), 0);
        x.set(5, 90);
        CHECK.due("still blown", x.count(11), 1);
        CHECK.due("fuse()", x.fuse(), 12);
        x.run(1);
        CHECK.due("then they start", x.count(8), 1);
        CHECK.due("with the current of now", x.count(1), 61);
    }

    private static void aNewFuseInTime() {
        Used x = new Used();
        x.read(0, 10);
        x.run(9);
        x.set(5, 10);
        x.set(6, 0);
        x.run(1);
        CHECK.due("blown", x.count(11), 1);
        x.set(5, 90);
        CHECK.due("fuse()", x.fuse(), 21);
        CHECK.due("this is an act", x.count(17), 4);
        CHECK.due("the read goes on", x.run(6), 1);
        x.undo();
        x.undo();
        CHECK.due("blown again", x.count(11), 1);
    }

    private static void ticksOfAnsweredReads() {
        Used x = new Used();
        x.run(3);
        x.read(0, 2);
        x.run(1);
        x.read(0, 3);
        x.read(1, 50);
        CHECK.due("the first", x.run(7), 1);
        CHECK.due("its ticks", x.count(16), 8);
        CHECK.due("the second", x.run(3), 1);
        CHECK.due("the ticks of both", x.count(16), 8 + 10);
        x.drop(2);
        CHECK.due("a dropped one has none", x.count(16), 18);
    }
}
