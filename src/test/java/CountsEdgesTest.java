/** Edges of promises 1 and 21: a new object, and each count just before, at and just behind what it counts. */
public final class CountsEdgesTest {
    private static final Check CHECK = new Check("CountsEdgesTest");

    public static void main(String[] args) {
        newObject();
        objectsApart();
        what();
        ticks();
        currentOfNow();
        greatestCurrent();
        readsThatWait();
        readsSoFar();
        answeredOnes();
        lostOnes();
        whatDisksDo();
        theFuse();
        startsSoFar();
        failedOnes();
        ticksOfAnsweredReads();
        ticksOfReadsUnderWay();
        statesAndText();
        theNumbers();
        theLastCall();
        CHECK.end();
    }

    private static void newObject() {
        CHECK.sentence("Creates a drawer whose disks stand by.");
        Used x = new Used();
        int[] due = {0, 12, 0, 0, 0, 0, 0, 12, 0, 0, 0, 0, 0, 0, 0, 0, 0, 0, 0, -2,
            6, 20, 6, 4, 1, 90, 10, 3, 3, 40, -2};
        for (int what = 0; what < due.length; what++) {
            CHECK.due("count(" + what + ")", x.count(what), due[what]);
        }
        for (int disk = 0; disk < 12; disk++) {
            for (int what = 0; what < 8; what++) {
                CHECK.due("disk(" + disk + ", " + what + ")", x.disk(disk, what), what == 1 ? 1 : 0);
            }
        }
    }

    private static void objectsApart() {
        CHECK.sentence("Creates a drawer whose disks stand by.");
        Used x = new Used();
        Used y = new Used();
        x.set(0, 1);
        x.read(3, 4);
        x.keep();
        Check.performed(x, "fail 2;run 9");
        Used z = new Used();
        CHECK.same("one made before", Check.counts(y), Check.counts(new Used()));
        CHECK.same("one made behind", Check.counts(z), Check.counts(new Used()));
        CHECK.due("without a snapshot", y.restore(), -5);
    }

    private static void what() {
        CHECK.sentence("Returns the number; BAD_VALUE.");
        Used x = new Used();
        for (int what : new int[] {Integer.MIN_VALUE, -1, 19, 30, 31, Integer.MAX_VALUE}) {
            CHECK.due("count(" + what + ")", x.count(what), -2);
        }
        CHECK.due("count(0)", x.count(0), 0);
        CHECK.due("count(18)", x.count(18), 0);
        CHECK.due("count(20)", x.count(20), 6);
        CHECK.due("count(29)", x.count(29), 40);
    }

    private static void due(String when, Used x, int what, int due) {
        CHECK.due(when + ": count(" + what + ")", x.count(what), due);
    }

    private static void ticks() {
        CHECK.sentence("0 for the count of ticks");
        Used x = new Used();
        x.run(1);
        due("behind one", x, 0, 1);
        x.run(200);
        due("behind more", x, 0, 201);
        due("behind the last one", Drawers.behind(99999), 0, 99999);
    }

    private static void currentOfNow() {
        CHECK.sentence("1 for the current of now");
        Used x = new Used();
        x.set(4, 0);
        due("of none", x, 1, 0);
        x.set(4, 5);
        due("before a tick", x, 1, 60);
        x.read(0, 1);
        due("nothing starts by asking", x, 1, 60);
        x.run(1);
        due("one starts", x, 1, 75);
    }

    private static void greatestCurrent() {
        CHECK.sentence("2 for the greatest current behind any tick so far");
        Used x = new Used();
        x.set(4, 5);
        due("before the first tick", x, 2, 0);
        x.run(1);
        due("behind it", x, 2, 60);
        x.set(4, 4);
        x.run(1);
        due("behind one with less", x, 2, 60);
        x.set(4, 5);
        x.run(1);
        due("behind one with as much", x, 2, 60);
        x.read(0, 1);
        x.run(1);
        due("behind one with more", x, 2, 75);
        x.set(1, 50);
        due("more between two ticks", x, 2, 75);
        x.set(1, 20);
        x.run(20);
        due("is not behind any", x, 2, 75);
    }

    private static void readsThatWait() {
        CHECK.sentence("3 for reads that wait or go on");
        Used x = new Used();
        x.read(0, 2);
        due("one waits", x, 3, 1);
        x.read(0, 1);
        x.run(7);
        due("one goes on, one waits", x, 3, 2);
        x.run(1);
        due("one goes on", x, 3, 1);
        x.drop(1);
        due("none", x, 3, 0);
    }

    private static void readsSoFar() {
        CHECK.sentence("4 for reads so far");
        Used x = new Used();
        x.read(0, 0);
        due("a refused one is none", x, 4, 0);
        x.read(0, 1);
        due("one", x, 4, 1);
        x.drop(0);
        due("a dropped one counts", x, 4, 1);
        x.read(0, 1);
        x.run(7);
        due("an answered one, too", x, 4, 2);
        due("and a lost one", Drawers.broken(0), 4, 1);
        due("at most 500", Drawers.answered(500), 4, 500);
    }

    private static void answeredOnes() {
        CHECK.sentence("5 for answered ones");
        Used x = new Used();
        x.read(0, 1);
        x.read(0, 1);
        x.run(6);
        due("none yet", x, 5, 0);
        x.run(1);
        due("one", x, 5, 1);
        x.drop(1);
        due("not a dropped one", x, 5, 1);
        due("nor a lost one", Drawers.broken(0), 5, 0);
        due("up to 500", Drawers.answered(500), 5, 500);
    }

    private static void lostOnes() {
        CHECK.sentence("6 for lost ones");
        Used x = Drawers.failedTwice(0);
        due("none behind two failed starts", x, 6, 0);
        x.fail(0);
        x.run(1);
        due("none before the third", x, 6, 0);
        x.run(1);
        due("one behind it", x, 6, 1);
        x.replace(0);
        x.read(0, 1);
        x.drop(1);
        due("not a dropped one", x, 6, 1);
        Drawers.blow(x);
        x.run(1);
        due("nor one that was cut off", x, 6, 1);
    }

    private static void disksThat(String when, Used x, int standBy, int start, int spin, int broken) {
        due(when, x, 7, standBy);
        due(when, x, 8, start);
        due(when, x, 9, spin);
        due(when, x, 10, broken);
    }

    private static void whatDisksDo() {
        CHECK.sentence("7 for disks that stand by, 8 that start, 9 that spin, 10 that are broken");
        Used x = Drawers.broken(3);
        disksThat("one broken", x, 11, 0, 0, 1);
        x.read(0, 1);
        disksThat("one asked", x, 11, 0, 0, 1);
        x.run(1);
        disksThat("one starts", x, 10, 1, 0, 1);
        x.read(1, 9);
        x.read(2, 9);
        x.run(1);
        disksThat("one spins, two start", x, 8, 2, 1, 1);
        x.run(1);
        disksThat("three spin", x, 8, 0, 3, 1);
        x.replace(3);
        disksThat("none broken", x, 9, 0, 3, 0);
        Used y = new Used();
        y.set(5, 500);
        y.set(8, 12);
        for (int disk = 0; disk < 12; disk++) {
            y.read(disk, 1);
        }
        y.run(1);
        disksThat("all start", y, 0, 12, 0, 0);
        y.run(6);
        disksThat("all spin", y, 0, 0, 12, 0);
    }

    private static void fuse(String when, Used x, int blown, int hot, int fuses) {
        due(when, x, 11, blown);
        due(when, x, 12, hot);
        due(when, x, 13, fuses);
    }

    private static void theFuse() {
        CHECK.sentence("11 for whether the fuse is blown (1, otherwise 0), 12 for its hot ticks, "
            + "13 for fuses blown so far");
        Used x = new Used();
        x.set(5, 11);
        x.set(7, 1);
        fuse("before a tick", x, 0, 0, 0);
        x.run(1);
        fuse("hot", x, 0, 1, 0);
        x.run(1);
        fuse("blown", x, 1, 0, 1);
        x.run(5);
        fuse("blown still", x, 1, 0, 1);
        x.fuse();
        fuse("put in anew", x, 0, 0, 1);
        x.run(2);
        fuse("blown again", x, 1, 0, 2);
    }

    private static void startsSoFar() {
        CHECK.sentence("14 for starts so far");
        Used x = new Used();
        x.read(0, 1);
        x.read(1, 1);
        due("none by asking", x, 14, 0);
        x.run(1);
        due("as they begin", x, 14, 2);
        x.run(6);
        due("not as they end", x, 14, 2);
        due("failed ones, too", Drawers.broken(0), 14, 3);
        Used y = new Used();
        y.read(0, 9);
        y.run(1);
        Drawers.blow(y);
        y.run(1);
        due("one that was cut off, too", y, 14, 1);
        y.replace(0);
        due("one of an old disk, too", y, 14, 1);
    }

    private static void failedOnes() {
        CHECK.sentence("15 for failed ones");
        Used x = new Used();
        x.read(0, 1);
        x.fail(0);
        x.run(6);
        due("none as it is planned", x, 15, 0);
        x.run(1);
        due("one as it failed", x, 15, 1);
        x.run(7);
        due("not one that did not", x, 15, 1);
        due("all three", Drawers.broken(0), 15, 3);
    }

    private static void ticksOfAnsweredReads() {
        CHECK.sentence("16 for the ticks of all answered reads together (of each: the count behind the tick in which "
            + "it was answered, less the count as it was asked for)");
        Used x = new Used();
        x.read(0, 1);
        x.run(6);
        due("none answered", x, 16, 0);
        x.run(1);
        due("asked for at 0, answered at 7", x, 16, 7);
        x.read(0, 1);
        x.run(1);
        due("the least there is", x, 16, 8);
        x.run(100);
        x.read(0, 1);
        x.read(0, 2);
        x.run(7);
        due("one at 7, behind a start", x, 16, 8 + 7);
        x.run(2);
        due("one at 9", x, 16, 8 + 7 + 9);
    }

    private static void ticksOfReadsUnderWay() {
        CHECK.sentence("16 for the ticks of all answered reads together");
        Used x = Drawers.failedTwice(0);
        x.fail(0);
        x.read(1, 3);
        x.run(3);
        due("a lost one has none", x, 16, 0);
        x.drop(1);
        due("nor has a dropped one", x, 16, 0);
        x.read(1, 1);
        x.read(1, 1);
        x.run(2);
        due("two in one run", x, 16, 1 + 2);
        x.undo();
        due("undone", x, 16, 0);
    }

    private static void statesAndText() {
        CHECK.sentence("17 for the states in the history, 18 for the length of the text");
        Used x = new Used();
        for (int act = 1; act <= 5; act++) {
            x.fail(act);
            due("acts", x, 17, Math.min(act, 4));
        }
        for (int length = 1; length <= 80; length++) {
            x.type('x');
            due("characters", x, 18, length);
        }
        x.type('x');
        due("no more", x, 18, 80);
        x.clearText();
        due("none", x, 18, 0);
        x.undo();
        due("one undone", x, 17, 3);
    }

    private static void theNumbers() {
        CHECK.sentence("20 to 29 for the numbers 0 to 9");
        int[] values = {11, 12, 13, 14, 3, 16, 17, 18, 9, 20};
        Used x = new Used();
        for (int which = 0; which < 10; which++) {
            x.set(which, values[which]);
        }
        for (int which = 0; which < 10; which++) {
            due("set", x, 20 + which, values[which]);
        }
    }

    private static void theLastCall() {
        CHECK.sentence("An object is used for at most 512 calls after it has been made");
        Used x = new Used();
        for (int call = 1; call < Used.CALLS; call++) {
            x.run(200);
        }
        CHECK.due("calls left", x.callsLeft(), 1);
        CHECK.due("the 512th call", x.count(0), 99999 / 200 * 200);
        Used y = new Used();
        for (int turn = 0; turn < Used.CALLS / 2 - 2; turn++) {
            y.read(turn % 12, 50);
            y.run(9);
        }
        CHECK.due("reads ever, in many calls", y.count(4) - y.count(3) - y.count(5), 0);
        CHECK.due("the 512th call", y.undo(), 3);
    }
}
