/** Edges of promises 17 to 20: couldStart, answeredIn, ifAtOnce, bestAtOnce. */
public final class ForeseenEdgesTest {
    private static final Check CHECK = new Check("ForeseenEdgesTest");

    public static void main(String[] args) {
        couldStartAtOnce();
        couldStartByTheFuse();
        couldStartThoseThatStandBy();
        couldStartWithoutReads();
        couldStartBehindABlownFuse();
        answeredInFrom1();
        answeredInUpTo400();
        answeredInOfLost();
        answeredInAndTheFuse();
        answeredInTicksAlone();
        answeredInBeyondTheLastTick();
        mostAndWhat();
        anotherNumber();
        untilNoReadWaitsFrom0();
        untilNoReadWaitsUpTo400();
        untilLost();
        greatestCurrentOf100Ticks();
        greatestCurrentOfWhatComes();
        blownBehind100Ticks();
        blownByHeat();
        bestOfSeveral();
        bestUpTo400();
        noneIsBest();
        bestAsTheFuseBears();
        CHECK.end();
    }

    private static void couldStartAtOnce() {
        CHECK.sentence("Tells how many disks that stand by could start now, one behind the other as new starts in a "
            + "tick do (4.), as far as the fuse and the number at once allow, whether they have reads or not.");
        Used x = new Used();
        x.set(5, 500);
        for (int most = 1; most <= 12; most++) {
            x.set(8, most);
            CHECK.due("of " + most + " at once", x.couldStart(), most);
        }
        x.read(0, 9);
        x.read(1, 9);
        x.run(1);
        x.set(8, 4);
        CHECK.due("two start, of four", x.couldStart(), 2);
        x.set(8, 3);
        CHECK.due("two start, of three", x.couldStart(), 1);
        x.set(8, 2);
        CHECK.due("two start, of two", x.couldStart(), 0);
        x.set(8, 1);
        CHECK.due("two start, of one", x.couldStart(), 0);
        x.run(6);
        CHECK.due("none starts, of one", x.couldStart(), 1);
    }

    private static void couldStartByTheFuse() {
        CHECK.sentence("as far as the fuse and the number at once allow");
        Used x = new Used();
        x.set(8, 12);
        int[][] due =
            {{10, 0}, {30, 0}, {31, 1}, {49, 1}, {50, 2}, {220, 10}, {221, 11}, {239, 11}, {240, 12}, {500, 12}};
        for (int[] each : due) {
            x.set(5, each[0]);
            CHECK.due("with a fuse of " + each[0], x.couldStart(), each[1]);
        }
        x.set(4, 5);
        x.set(1, 1);
        x.set(5, 55);
        CHECK.due("56 is above 55", x.couldStart(), 0);
        x.set(5, 56);
        CHECK.due("each one leaves more for the next", x.couldStart(), 12);
    }

    private static void couldStartThoseThatStandBy() {
        CHECK.sentence("Tells how many disks that stand by could start now");
        Used x = Drawers.broken(0);
        x.set(5, 500);
        x.set(8, 12);
        CHECK.due("not a broken one", x.couldStart(), 11);
        x.read(1, 50);
        x.run(1);
        CHECK.due("nor one that starts", x.couldStart(), 10);
        x.run(1);
        CHECK.due("nor one that spins", x.couldStart(), 10);
        x.fail(2);
        CHECK.due("but one with a fault planned", x.couldStart(), 10);
        for (int disk = 2; disk < 12; disk++) {
            x.read(disk, 50);
        }
        x.run(2);
        CHECK.due("and one whose start has failed", x.couldStart(), 1);
        x.run(2);
        CHECK.due("none stands by", x.couldStart(), 0);
    }

    private static void couldStartWithoutReads() {
        CHECK.sentence("whether they have reads or not.");
        Used x = new Used();
        CHECK.due("without reads", x.couldStart(), 3);
        x.read(11, 1);
        CHECK.due("with one", x.couldStart(), 3);
        CHECK.due("nothing starts by that", x.count(8), 0);
    }

    private static void couldStartBehindABlownFuse() {
        CHECK.sentence("Returns how many; 0 if the fuse is blown.");
        Used x = new Used();
        Drawers.blow(x);
        x.set(5, 500);
        CHECK.due("blown", x.couldStart(), 0);
        x.fuse();
        CHECK.due("put in anew", x.couldStart(), 3);
        Used y = new Used();
        y.set(5, 11);
        y.run(1);
        y.set(5, 90);
        CHECK.due("a hot one", y.couldStart(), 3);
    }

    private static void answeredInFrom1() {
        CHECK.sentence("Tells in how many ticks a read is answered, if only ticks pass.");
        Used x = new Used();
        x.read(0, 3);
        CHECK.due("from the beginning", x.answeredIn(0), 9);
        for (int left = 8; left >= 1; left--) {
            CHECK.due("run(1)", x.run(1), 0);
            CHECK.due("a tick less", x.answeredIn(0), left);
        }
        CHECK.due("in the last one", x.run(1), 1);
        CHECK.due("it is no more", x.answeredIn(0), -1);
        x.read(0, 1);
        CHECK.due("of a disk that spins", x.answeredIn(1), 1);
        x.read(0, 1);
        CHECK.due("behind that", x.answeredIn(2), 2);
    }

    /** Disk 0 has reads for 393 ticks, which are answered in 399, and one of 1 tick more. */
    private static Used untilTick399() {
        Used x = new Used();
        for (int read = 0; read < 7; read++) {
            x.read(0, 50);
        }
        x.read(0, 43);
        return x;
    }

    private static void answeredInUpTo400() {
        CHECK.sentence("Returns the ticks, up to 400; UNKNOWN; NONE if it is not by then, or lost.");
        Used x = untilTick399();
        x.read(0, 1);
        x.read(0, 1);
        CHECK.due("399", x.answeredIn(7), 399);
        CHECK.due("400", x.answeredIn(8), 400);
        CHECK.due("401", x.answeredIn(9), -5);
        CHECK.due("of no read", x.answeredIn(10), -1);
        x.run(1);
        CHECK.due("a tick later", x.answeredIn(9), 400);
    }

    private static void answeredInOfLost() {
        CHECK.sentence("NONE if it is not by then, or lost.");
        Used x = Drawers.failedTwice(4);
        x.read(4, 1);
        x.read(5, 1);
        CHECK.due("of a start that does not fail", x.answeredIn(0), 10);
        x.fail(4);
        CHECK.due("of the third that fails", x.answeredIn(0), -5);
        CHECK.due("each read of the disk", x.answeredIn(1), -5);
        CHECK.due("in the tick in which those are lost another is answered", x.answeredIn(2), 2);
        x.run(2);
        CHECK.due("lost", x.answeredIn(0), -1);
        Used y = Drawers.failedTwice(4);
        y.replace(4);
        y.fail(4);
        CHECK.due("the first of a new disk that fails", y.answeredIn(0), 1 + 1 + 1 + 9);
    }

    private static void answeredInAndTheFuse() {
        CHECK.sentence("Tells in how many ticks a read is answered, if only ticks pass.");
        Used x = new Used();
        x.read(0, 5);
        x.run(8);
        x.set(5, 20);
        x.set(6, 50);
        x.set(7, 2);
        CHECK.due("blown behind the tick in which it is answered", x.answeredIn(0), 3);
        x.set(7, 1);
        CHECK.due("blown a tick before", x.answeredIn(0), -5);
        x.set(7, 0);
        CHECK.due("blown two ticks before", x.answeredIn(0), -5);
        x.run(1);
        CHECK.due("blown", x.answeredIn(0), -5);
        x.fuse();
        x.set(5, 21);
        CHECK.due("with a new one in time", x.answeredIn(0), 2);
    }

    private static void answeredInTicksAlone() {
        CHECK.sentence("Tells in how many ticks a read is answered, if only ticks pass.");
        Used x = new Used();
        x.set(8, 2);
        x.set(9, 2);
        for (int read = 0; read < 12; read++) {
            x.read((read * 5 + 3) % 7, 1 + read * read % 11);
        }
        x.fail(3);
        x.run(4);
        for (int read = 0; read < 12; read++) {
            int ticks = x.answeredIn(read);
            CHECK.holds("foreseen of " + read, ticks >= 1 && ticks <= 200);
            x.run(ticks);
            CHECK.due("answered by then", x.readOf(read, 0), -1);
            x.undo();
            if (ticks > 1) {
                x.run(ticks - 1);
                CHECK.due("not before: a tick is left", x.readOf(read, 2), 1);
                x.undo();
            }
        }
    }

    private static void answeredInBeyondTheLastTick() {
        CHECK.sentence("Tells in how many ticks a read is answered, if only ticks pass.");
        Used x = Drawers.behind(99999);
        x.read(0, 1);
        CHECK.due("answeredIn(0)", x.answeredIn(0), 7);
        CHECK.due("ifAtOnce(1, 0)", x.ifAtOnce(1, 0), 7);
        CHECK.due("bestAtOnce()", x.bestAtOnce(), 1);
        CHECK.due("no tick passed by that", x.count(0), 99999);
    }

    private static void mostAndWhat() {
        CHECK.sentence("`most`: 1 to 12");
        Used x = new Used();
        for (int most : new int[] {Integer.MIN_VALUE, -1, 0, 13, 14, Integer.MAX_VALUE}) {
            for (int what = -1; what <= 3; what++) {
                CHECK.due("ifAtOnce(" + most + ", " + what + ")", x.ifAtOnce(most, what), -2);
            }
        }
        for (int most : new int[] {1, 2, 11, 12}) {
            for (int what : new int[] {Integer.MIN_VALUE, -1, 3, 4, Integer.MAX_VALUE}) {
                CHECK.due("ifAtOnce(" + most + ", " + what + ")", x.ifAtOnce(most, what), -2);
            }
            CHECK.due("ifAtOnce(" + most + ", 0)", x.ifAtOnce(most, 0), 0);
            CHECK.due("ifAtOnce(" + most + ", 1)", x.ifAtOnce(most, 1), 12);
            CHECK.due("ifAtOnce(" + most + ", 2)", x.ifAtOnce(most, 2), 0);
        }
    }

    private static void anotherNumber() {
        CHECK.sentence("Tells what another number of starts at once would bring.");
        Used x = new Used();
        x.set(5, 500);
        for (int disk = 0; disk < 12; disk++) {
            x.read(disk, 10);
        }
        int[] ticks = {82, 46, 34, 28, 28, 22, 22, 22, 22, 22, 22, 16};
        int[] current = {84, 116, 138, 160, 152, 180, 170, 164, 183, 202, 221, 240};
        for (int most = 1; most <= 12; most++) {
            CHECK.due("ifAtOnce(" + most + ", 0)", x.ifAtOnce(most, 0), ticks[most - 1]);
            CHECK.due("it is told, not set", x.count(28), 3);
            x.set(8, most);
            CHECK.due("so it is", x.run(ticks[most - 1]), 12);
            x.undo();
            CHECK.due("and not before", x.run(ticks[most - 1] - 1) < 12 ? 1 : 0, 1);
            x.undo();
            x.run(100);
            CHECK.due("the greatest current, too", x.count(2), current[most - 1]);
            x.undo();
            if (most != 3) {
                x.undo();
            }
            CHECK.due("ifAtOnce(" + most + ", 1)", x.ifAtOnce(most, 1), current[most - 1]);
        }
    }

    private static void untilNoReadWaitsFrom0() {
        CHECK.sentence("`what`: 0 for the ticks until no read waits or goes on (0 if none does; up to 400; NONE if "
            + "they are not by then)");
        Used x = new Used();
        CHECK.due("none does", x.ifAtOnce(1, 0), 0);
        x.read(0, 2);
        CHECK.due("one does", x.ifAtOnce(1, 0), 8);
        x.run(7);
        CHECK.due("its last tick", x.ifAtOnce(1, 0), 1);
        x.run(1);
        CHECK.due("none does any more", x.ifAtOnce(1, 0), 0);
        x.read(0, 2);
        x.drop(1);
        CHECK.due("it was taken back", x.ifAtOnce(1, 0), 0);
        CHECK.due("none does, with a blown fuse", Drawers.blown().ifAtOnce(1, 0), 0);
    }

    private static void untilNoReadWaitsUpTo400() {
        CHECK.sentence("(0 if none does; up to 400; NONE if they are not by then)");
        Used x = untilTick399();
        CHECK.due("399", x.ifAtOnce(12, 0), 399);
        x.read(0, 1);
        CHECK.due("400", x.ifAtOnce(12, 0), 400);
        x.read(0, 1);
        CHECK.due("401", x.ifAtOnce(12, 0), -5);
        x.run(1);
        CHECK.due("a tick later", x.ifAtOnce(12, 0), 400);
    }

    private static void untilLost() {
        CHECK.sentence("0 for the ticks until no read waits or goes on");
        Used x = Drawers.failedTwice(4);
        x.fail(4);
        CHECK.due("a lost one waits no more", x.ifAtOnce(1, 0), 2);
        x.read(5, 3);
        CHECK.due("but another one does", x.ifAtOnce(1, 0), 5);
        CHECK.due("at once with the other", x.ifAtOnce(2, 0), 4);
        x.run(2);
        CHECK.due("lost", x.count(6), 1);
    }

    /** One disk starts behind the other, for 20 ticks each: at tick 101 the fifth one spins. */
    private static Used oneEach20Ticks() {
        Used x = new Used();
        x.set(0, 20);
        x.set(1, 1);
        x.set(2, 20);
        x.set(3, 0);
        x.set(4, 0);
        x.set(8, 1);
        x.set(9, 0);
        for (int disk = 0; disk < 6; disk++) {
            x.read(disk, 1);
        }
        return x;
    }

    private static void greatestCurrentOf100Ticks() {
        CHECK.sentence("1 for the greatest current behind any of 100 ticks");
        Used x = oneEach20Ticks();
        x.set(5, 500);
        CHECK.due("four spin and one starts", x.ifAtOnce(1, 1), 81);
        x.run(1);
        CHECK.due("a tick later five spin and one starts", x.ifAtOnce(1, 1), 101);
        x.set(5, 100);
        CHECK.due("five spin, and none starts", x.ifAtOnce(1, 1), 100);
    }

    private static void greatestCurrentOfWhatComes() {
        CHECK.sentence("1 for the greatest current behind any of 100 ticks");
        Used x = new Used();
        x.read(0, 1);
        x.run(6);
        CHECK.due("current of now", x.count(1), 31);
        CHECK.due("the current of now is none of them", x.ifAtOnce(1, 1), 17);
        x.set(9, 1);
        x.run(1);
        x.set(4, 0);
        CHECK.due("nor is the greatest one so far", x.ifAtOnce(1, 1), 0);
        CHECK.due("which stays", x.count(2), 31);
        Used y = Drawers.blown();
        y.set(4, 2);
        CHECK.due("with a blown fuse all stand by", y.ifAtOnce(1, 1), 24);
    }

    private static void blownBehind100Ticks() {
        CHECK.sentence("2 for whether the fuse is blown behind these (1, otherwise 0)");
        Used x = oneEach20Ticks();
        x.set(5, 99);
        x.set(6, 0);
        x.set(7, 0);
        CHECK.due("not behind 100 ticks", x.ifAtOnce(1, 2), 0);
        CHECK.due("with two at once", x.ifAtOnce(2, 2), 1);
        x.run(1);
        CHECK.due("behind the next one", x.ifAtOnce(1, 2), 1);
        x.run(99);
        CHECK.due("not behind 100 ticks, indeed", x.count(11), 0);
        x.run(1);
        CHECK.due("but behind 101", x.count(11), 1);
        CHECK.due("blown already", x.ifAtOnce(1, 2), 1);
        x.fuse();
        x.set(5, 500);
        CHECK.due("put in anew", x.ifAtOnce(1, 2), 0);
    }

    private static void blownByHeat() {
        CHECK.sentence("2 for whether the fuse is blown behind these (1, otherwise 0)");
        Used x = new Used();
        x.set(9, 19);
        x.read(0, 1);
        x.run(7);
        x.set(5, 16);
        x.set(6, 50);
        x.set(7, 18);
        CHECK.due("hot for 18 ticks, until it rests", x.ifAtOnce(1, 2), 0);
        x.set(7, 17);
        CHECK.due("for one too many", x.ifAtOnce(1, 2), 1);
        x.run(10);
        CHECK.due("hot ticks", x.count(12), 10);
        CHECK.due("those so far count", x.ifAtOnce(1, 2), 1);
    }

    private static void bestOfSeveral() {
        CHECK.sentence("Finds the number of starts at once with which no read waits the soonest, as for ifAtOnce(); of "
            + "several the lowest one.");
        Used x = new Used();
        x.set(5, 500);
        CHECK.due("all bring 0", x.bestAtOnce(), 1);
        int[] due = {1, 2, 3, 4, 5, 6, 7, 8, 9, 10, 11, 12};
        for (int disk = 0; disk < 12; disk++) {
            x.read(disk, 1);
            CHECK.due("best for " + (disk + 1) + " disks", x.bestAtOnce(), due[disk]);
        }
        x.set(8, 1);
        CHECK.due("whatever is set", x.bestAtOnce(), 12);
        x.set(5, 90);
        CHECK.due("four would start at once, but three are as soon", x.bestAtOnce(), 3);
        x.drop(11);
        x.set(5, 500);
        CHECK.due("best for eleven again", x.bestAtOnce(), 11);
        Used y = new Used();
        y.read(0, 50);
        y.read(1, 44);
        CHECK.due("one behind the other is as soon", y.bestAtOnce(), 1);
        y.read(1, 1);
        CHECK.due("and by a tick it is not", y.bestAtOnce(), 2);
    }

    private static void bestUpTo400() {
        CHECK.sentence("Returns the number; NONE if there is none.");
        Used x = untilTick399();
        x.read(0, 1);
        CHECK.due("400", x.bestAtOnce(), 1);
        x.read(0, 1);
        CHECK.due("401", x.bestAtOnce(), -5);
        x.drop(9);
        for (int read = 0; read < 7; read++) {
            x.read(1, 50);
        }
        x.read(1, 38);
        CHECK.due("400 with one", x.ifAtOnce(1, 0), 400);
        x.read(1, 1);
        CHECK.due("401 with one", x.ifAtOnce(1, 0), -5);
        CHECK.due("400 with two", x.ifAtOnce(2, 0), 400);
        CHECK.due("two are the best", x.bestAtOnce(), 2);
    }

    private static void noneIsBest() {
        CHECK.sentence("Returns the number; NONE if there is none.");
        Used x = new Used();
        x.set(5, 30);
        x.read(0, 1);
        CHECK.due("the fuse bears no start", x.bestAtOnce(), -5);
        x.set(5, 31);
        CHECK.due("it bears one", x.bestAtOnce(), 1);
        Drawers.blow(x);
        x.set(5, 90);
        CHECK.due("it is blown", x.bestAtOnce(), -5);
        x.drop(0);
        CHECK.due("but no read waits", x.bestAtOnce(), 1);
    }

    private static void bestAsTheFuseBears() {
        CHECK.sentence("Finds the number of starts at once with which no read waits the soonest");
        Used x = new Used();
        x.set(2, 20);
        x.set(3, 20);
        x.set(5, 70);
        x.set(6, 0);
        x.set(7, 0);
        x.set(9, 1);
        x.read(0, 6);
        x.read(1, 6);
        CHECK.due("two would blow the fuse", x.ifAtOnce(2, 0), -5);
        CHECK.due("so would twelve", x.ifAtOnce(12, 2), 1);
        CHECK.due("one would not", x.ifAtOnce(1, 2), 0);
        CHECK.due("by then", x.ifAtOnce(1, 0), 18);
        CHECK.due("one is the best", x.bestAtOnce(), 1);
        x.set(8, 1);
        CHECK.due("so it is", x.run(18), 2);
    }
}
