/** Promises 17 to 20: couldStart, answeredIn, ifAtOnce, bestAtOnce. */
public final class ForeseenTest {
    private static final Check CHECK = new Check("ForeseenTest");

    public static void main(String[] args) {
        wrongInputs();
        couldStart();
        answeredIn();
        answeredInAtMost400();
        answeredInOfLost();
        untilNoReadWaits();
        untilNoReadWaitsAtMost400();
        greatestCurrent();
        blownBehind100();
        bestAtOnce();
        bestByOneTick();
        nothingIsChanged();
        CHECK.end();
    }

    private static void wrongInputs() {
        Used x = new Used();
        x.read(0, 1);
        for (int read : new int[] {-1, 1, Integer.MIN_VALUE, Integer.MAX_VALUE}) {
            CHECK.due("answeredIn(" + read + ")", x.answeredIn(read), -1);
        }
        for (int wrong : new int[] {-1, 13, Integer.MIN_VALUE, Integer.MAX_VALUE}) {
            CHECK.due("ifAtOnce(" + wrong + ", 0)", x.ifAtOnce(wrong, 0), -2);
            CHECK.due("ifAtOnce(1, " + wrong + ")", x.ifAtOnce(1, wrong), -2);
        }
        CHECK.due("ifAtOnce(0, 0)", x.ifAtOnce(0, 0), -2);
        CHECK.due("ifAtOnce(1, 3)", x.ifAtOnce(1, 3), -2);
        CHECK.due("ifAtOnce(12, 2)", x.ifAtOnce(12, 2), 0);
        x.run(7);
        CHECK.due("an answered read", x.answeredIn(0), -1);
    }

    private static void couldStart() {
        Used x = new Used();
        CHECK.due("three at once", x.couldStart(), 3);
        x.set(8, 12);
        CHECK.due("by the fuse of 90", x.couldStart(), 4);
        x.set(5, 88);
        CHECK.due("as much as the fuse", x.couldStart(), 4);
        x.set(5, 87);
        CHECK.due("one less", x.couldStart(), 3);
        x.set(5, 500);
        CHECK.due("all of them", x.couldStart(), 12);
        x.read(0, 50);
        x.read(1, 50);
        x.run(1);
        CHECK.due("those that start don't count", x.couldStart(), 10);
        x.set(8, 5);
        CHECK.due("but they are at once", x.couldStart(), 3);
        x.set(8, 1);
        CHECK.due("too many already", x.couldStart(), 0);
        x.set(8, 12);
        x.run(6);
        CHECK.due("those that spin don't count", x.couldStart(), 10);
        x.set(5, 30 + 19);
        CHECK.due("their current does", x.couldStart(), 1);
        x.set(5, 30 + 18);
        CHECK.due("and with less there is none", x.couldStart(), 0);
        x.set(6, 0);
        x.set(5, 10);
        x.run(1);
        x.set(5, 500);
        CHECK.due("blown", x.count(11), 1);
        CHECK.due("none behind a blown fuse", x.couldStart(), 0);
        x.fuse();
        CHECK.due("a new fuse", x.couldStart(), 10);
        Used y = new Used();
        y.set(4, 5);
        y.set(1, 3);
        y.set(8, 12);
        y.set(5, 57);
        CHECK.due("the first would still be too much", y.couldStart(), 0);
        y.set(5, 58);
        CHECK.due("each start makes room for the next", y.couldStart(), 12);
    }

    private static void answeredIn() {
        Used x = new Used();
        x.set(8, 1);
        x.read(0, 3);
        x.read(1, 1);
        x.read(0, 2);
        CHECK.due("the first", x.answeredIn(0), 9);
        CHECK.due("behind the start of another", x.answeredIn(1), 13);
        CHECK.due("behind the first", x.answeredIn(2), 11);
        x.fail(0);
        CHECK.due("the next one starts, and then it is tried again", x.answeredIn(1), 13);
        CHECK.due("a fault is foreseen", x.answeredIn(0), 13 + 6 + 2);
        x.run(20);
        CHECK.due("in one tick", x.answeredIn(0), 1);
        CHECK.due("it is", x.run(1), 1);
        Used y = new Used();
        y.set(8, 12);
        y.set(5, 50);
        y.set(6, 0);
        y.read(0, 50);
        y.read(1, 5);
        y.run(9);
        CHECK.due("reads go on", y.answeredIn(1), 2);
        y.set(5, 10);
        CHECK.due("the fuse will blow", y.answeredIn(1), -5);
        y.set(7, 20);
        y.set(6, 100);
        CHECK.due("it will blow later", y.answeredIn(1), 2);
        CHECK.due("but for the longer one", y.answeredIn(0), -5);
        y.set(6, 0);
        y.set(7, 1);
        y.drop(1);
        y.read(1, 1);
        CHECK.due("answered in the tick in which the fuse blows", y.answeredIn(2), 1);
        CHECK.due("run(1)", y.run(1), 1);
        CHECK.due("blown", y.count(11), 1);
        CHECK.due("behind a blown fuse", y.answeredIn(0), -5);
    }

    private static void answeredInAtMost400() {
        Used x = new Used();
        for (int read = 0; read < 7; read++) {
            x.read(0, 50);
        }
        x.read(0, 44);
        x.read(0, 1);
        CHECK.due("in 400 ticks", x.answeredIn(7), 400);
        CHECK.due("in 401", x.answeredIn(8), -5);
        x.run(1);
        CHECK.due("a tick later", x.answeredIn(8), 400);
    }

    private static void answeredInOfLost() {
        Used x = new Used();
        x.set(0, 1);
        x.read(0, 9);
        x.read(1, 20);
        x.fail(0);
        x.run(2);
        x.fail(0);
        x.run(2);
        x.fail(0);
        x.read(0, 1);
        CHECK.due("it will be lost", x.answeredIn(0), -5);
        CHECK.due("the other, too", x.answeredIn(2), -5);
        CHECK.due("of another disk it is answered", x.answeredIn(1), 17);
        CHECK.due("until none waits", x.ifAtOnce(3, 0), 17);
        x.drop(1);
        CHECK.due("until all are lost", x.ifAtOnce(3, 0), 2);
        CHECK.due("best at once", x.bestAtOnce(), 1);
    }

    private static void untilNoReadWaits() {
        Used x = new Used();
        CHECK.due("none waits", x.ifAtOnce(5, 0), 0);
        x.set(5, 500);
        for (int disk = 0; disk < 12; disk++) {
            x.read(disk, 10);
        }
        int[] due = {0, 82, 46, 34, 28, 28, 22, 22, 22, 22, 22, 22, 16};
        for (int most = 1; most <= 12; most++) {
            CHECK.due("ifAtOnce(" + most + ", 0)", x.ifAtOnce(most, 0), due[most]);
        }
        CHECK.due("best at once", x.bestAtOnce(), 12);
        x.drop(0);
        CHECK.due("best of eleven", x.bestAtOnce(), 11);
        x.set(5, 90);
        CHECK.due("the number is as before", x.count(28), 3);
    }

    private static void untilNoReadWaitsAtMost400() {
        Used x = new Used();
        for (int read = 0; read < 7; read++) {
            x.read(0, 50);
        }
        x.read(0, 44);
        CHECK.due("in 400 ticks", x.ifAtOnce(1, 0), 400);
        CHECK.due("best at once", x.bestAtOnce(), 1);
        x.read(0, 1);
        CHECK.due("in 401", x.ifAtOnce(1, 0), -5);
        CHECK.due("none is best", x.bestAtOnce(), -5);
        x.run(1);
        CHECK.due("a tick later", x.ifAtOnce(1, 0), 400);
        CHECK.due("best then", x.bestAtOnce(), 1);
    }

    private static void greatestCurrent() {
        Used x = new Used();
        CHECK.due("all stand by", x.ifAtOnce(1, 1), 12);
        x.set(5, 500);
        x.set(9, 0);
        for (int disk = 0; disk < 12; disk++) {
            x.read(disk, 1);
        }
        CHECK.due("all start", x.ifAtOnce(12, 1), 240);
        CHECK.due("one after the other", x.ifAtOnce(1, 1), 20 + 11 * 6);
        x.run(200);
        CHECK.due("greatest so far", x.count(2), 3 * 20 + 9 * 6);
        CHECK.due("only what comes", x.ifAtOnce(12, 1), 12 * 6);
        x.set(2, 0);
        CHECK.due("no current at all", x.ifAtOnce(12, 1), 0);
        Used y = new Used();
        y.set(0, 20);
        y.set(1, 1);
        y.set(9, 0);
        y.set(8, 1);
        for (int disk = 0; disk < 6; disk++) {
            y.read(disk, 1);
        }
        int before = 12 + 4 * 5;
        CHECK.due("100 ticks see the end of four starts", y.ifAtOnce(1, 1), before);
        y.run(1);
        CHECK.due("and a tick later that of the fifth", y.ifAtOnce(1, 1), before + 5);
    }

    private static void blownBehind100() {
        Used x = new Used();
        x.set(5, 12);
        x.set(1, 1);
        x.set(0, 20);
        x.set(9, 0);
        x.set(6, 0);
        x.set(7, 0);
        x.set(8, 1);
        for (int disk = 0; disk < 6; disk++) {
            x.read(disk, 1);
        }
        CHECK.due("soon blown", x.ifAtOnce(1, 2), 1);
        x.set(5, 32);
        CHECK.due("not in 100 ticks", x.ifAtOnce(1, 2), 0);
        CHECK.due("with more at once", x.ifAtOnce(2, 2), 1);
        x.run(1);
        CHECK.due("in one more", x.ifAtOnce(1, 2), 1);
        x.run(100);
        CHECK.due("blown", x.count(11), 1);
        CHECK.due("it stays so", x.ifAtOnce(3, 2), 1);
        CHECK.due("all stand by", x.ifAtOnce(3, 1), 12);
        CHECK.due("the read waits for ever", x.ifAtOnce(3, 0), -5);
        CHECK.due("no number helps", x.bestAtOnce(), -5);
        x.drop(5);
        CHECK.due("but without reads", x.bestAtOnce(), 1);
        CHECK.due("none waits", x.ifAtOnce(3, 0), 0);
    }

    private static void bestAtOnce() {
        Used x = new Used();
        x.read(0, 1);
        x.read(4, 1);
        x.read(8, 1);
        CHECK.due("three at once", x.bestAtOnce(), 3);
        x.set(8, 1);
        CHECK.due("whatever is set", x.bestAtOnce(), 3);
        x.read(0, 50);
        CHECK.due("one is as good as any", x.bestAtOnce(), 1);
        Used y = new Used();
        y.set(5, 50);
        y.set(6, 0);
        y.set(2, 20);
        y.set(7, 0);
        y.set(3, 0);
        y.read(0, 5);
        y.read(1, 5);
        CHECK.due("two at once are sooner", y.bestAtOnce(), 2);
        y.set(3, 10);
        y.set(9, 1);
        CHECK.due("two would blow the fuse", y.ifAtOnce(2, 0), -5);
        CHECK.due("one would not", y.ifAtOnce(1, 0), 21);
        CHECK.due("one is the best", y.bestAtOnce(), 1);
        y.set(5, 49);
        y.read(0, 50);
        CHECK.due("the fuse allows one at once", y.ifAtOnce(2, 0), 72);
        CHECK.due("and so one is the best still", y.bestAtOnce(), 1);
    }

    private static void bestByOneTick() {
        Used x = new Used();
        x.set(0, 1);
        x.read(0, 1);
        x.read(1, 1);
        CHECK.due("one at once", x.ifAtOnce(1, 0), 3);
        CHECK.due("two at once", x.ifAtOnce(2, 0), 2);
        CHECK.due("two are the best", x.bestAtOnce(), 2);
    }

    private static void nothingIsChanged() {
        Used x = new Used();
        for (int disk = 0; disk < 12; disk++) {
            x.read(disk, 1 + disk);
        }
        x.fail(3);
        x.run(9);
        String before = Check.state(x);
        for (int read = 0; read < 12; read++) {
            x.answeredIn(read);
        }
        for (int most = 1; most <= 12; most++) {
            for (int what = 0; what < 3; what++) {
                x.ifAtOnce(most, what);
            }
        }
        x.bestAtOnce();
        x.couldStart();
        CHECK.same("the state", Check.state(x), before);
        CHECK.due("the states", x.count(17), 4);
        for (int read = 1; read < 12; read++) {
            int ticks = x.answeredIn(read);
            if (ticks > 0) {
                int answered = x.count(5);
                x.run(ticks);
                CHECK.holds("read " + read + " is answered", x.readOf(read, 0) == -1 && x.count(5) > answered);
                x.undo();
                if (ticks > 1) {
                    x.run(ticks - 1);
                    CHECK.holds("read " + read + " was not before", x.readOf(read, 0) >= 0);
                    x.undo();
                }
            }
        }
    }
}
