/** Promises 12, 13 and 14: undo, keep, restore. */
public final class HistoryTest {
    private static final Check CHECK = new Check("HistoryTest");

    public static void main(String[] args) {
        eachActIsUndone();
        fourStatesAtMost();
        wrongCallsLeaveTheStates();
        hotTicksAreUndone();
        onlyActsAreRecorded();
        snapshots();
        snapshotIsNotUndone();
        CHECK.end();
    }

    /** A drawer with something of everything: a blown fuse, a broken disk, reads, a planned fault. */
    private static Used full() {
        Used x = new Used();
        x.set(0, 2);
        Check.performed(x, "fail 1;read 1 9;run 3;fail 1;run 3;fail 1;run 3;read 2 9;run 5;read 3 9;read 2 5");
        Check.performed(x, "fail 4;run 1");
        x.set(5, 10);
        x.set(6, 1);
        x.run(1);
        CHECK.due("blown", x.count(11), 1);
        return x;
    }

    private static int act(Used x, int which) {
        switch (which) {
            case 0:
                return x.set(5, 95);
            case 1:
                return x.read(11, 3);
            case 2:
                return x.drop(1);
            case 3:
                return x.fail(6);
            case 4:
                return x.replace(1);
            case 5:
                return x.fuse();
            case 6:
                return x.run(17);
            case 7:
                return x.perform();
            default:
                return x.restore();
        }
    }

    private static Used readyFor(int which) {
        Used x = full();
        Check.write(x, "fuse;run 3;fail 8;read 7 7;run 9");
        if (which == 8) {
            x.undo();
            x.keep();
            x.run(20);
        }
        return x;
    }

    private static void eachActIsUndone() {
        for (int which = 0; which < 9; which++) {
            String before = Check.state(readyFor(which));
            int states = readyFor(which).count(17);
            Used x = readyFor(which);
            CHECK.holds("act " + which, act(x, which) >= 0);
            CHECK.holds("act " + which + " changes the state", !Check.state(x).equals(before));
            CHECK.due("act " + which + " is recorded", x.count(17), Math.min(4, states + 1));
            CHECK.due("undo of act " + which, x.undo(), Math.min(4, states + 1) - 1);
            CHECK.same("act " + which + " undone", Check.state(x), before);
            CHECK.due("the text behind act " + which, x.count(18), 32);
        }
    }

    private static void fourStatesAtMost() {
        Used x = new Used();
        for (int act = 1; act <= 9; act++) {
            x.run(1);
            CHECK.due("states", x.count(17), Math.min(act, 4));
        }
        for (int left = 3; left >= 0; left--) {
            CHECK.due("undo()", x.undo(), left);
            CHECK.due("ticks", x.count(0), 5 + left);
            CHECK.due("states", x.count(17), left);
        }
        CHECK.due("undo() of nothing", x.undo(), -5);
        CHECK.due("ticks stay", x.count(0), 5);
        x.run(3);
        x.run(3);
        CHECK.due("undo() behind new acts", x.undo(), 1);
        CHECK.due("ticks", x.count(0), 8);
        x.read(0, 1);
        CHECK.due("undo()", x.undo(), 1);
        CHECK.due("undo()", x.undo(), 0);
        CHECK.due("ticks", x.count(0), 5);
    }

    private static void wrongCallsLeaveTheStates() {
        Used x = new Used();
        for (int act = 1; act <= 6; act++) {
            x.run(act);
            x.run(0);
            x.set(0, 6);
            CHECK.due("not possible", Check.performed(x, programThatEndsBadly()), -4);
        }
        for (int act = 5; act >= 2; act--) {
            x.undo();
            CHECK.due("ticks behind act " + act, x.count(0), act * (act + 1) / 2);
        }
        CHECK.due("no more states", x.undo(), -5);
    }

    /** It breaks a disk, for which its last command can plan no fault then. */
    private static String programThatEndsBadly() {
        return "run 7;fail 0;read 0 1;run 9;fail 0;run 7;fail 0;run 7;fail 0";
    }

    private static void hotTicksAreUndone() {
        Used x = new Used();
        x.set(5, 11);
        x.set(7, 20);
        x.run(5);
        x.keep();
        CHECK.due("hot ticks", x.count(12), 5);
        x.run(3);
        CHECK.due("more of them", x.count(12), 8);
        x.undo();
        CHECK.due("undone", x.count(12), 5);
        x.set(5, 12);
        x.run(1);
        CHECK.due("none", x.count(12), 0);
        x.restore();
        CHECK.due("restored", x.count(12), 5);
    }

    private static void onlyActsAreRecorded() {
        Used x = full();
        x.undo();
        x.undo();
        x.undo();
        x.undo();
        CHECK.due("no states", x.count(17), 0);
        x.type('f');
        x.clearText();
        x.keep();
        x.couldStart();
        x.answeredIn(1);
        x.ifAtOnce(3, 0);
        x.ifAtOnce(3, 1);
        x.bestAtOnce();
        x.readOf(1, 1);
        x.set(8, 3);
        x.set(8, 13);
        x.read(1, 1);
        x.drop(99);
        x.fail(1);
        x.replace(-1);
        x.fuse();
        x.run(0);
        x.perform();
        CHECK.due("no states still", x.count(17), 0);
        CHECK.due("undo()", x.undo(), -5);
    }

    private static Used keptAndChanged() {
        Used x = full();
        x.keep();
        x.fuse();
        x.set(5, 500);
        x.run(30);
        x.replace(1);
        x.read(1, 1);
        return x;
    }

    private static void snapshots() {
        String kept = Check.state(full());
        String later = Check.state(keptAndChanged());
        int ticks = full().count(0);
        CHECK.due("keep()", full().keep(), ticks);
        Used x = keptAndChanged();
        CHECK.due("restore()", x.restore(), ticks);
        CHECK.same("as it was kept", Check.state(x), kept);
        CHECK.due("states", x.count(17), 4);
        CHECK.due("restore() again", x.restore(), ticks);
        CHECK.due("undo()", x.undo(), 3);
        CHECK.due("the second restore undone", x.count(0), ticks);
        CHECK.due("undo()", x.undo(), 2);
        CHECK.same("the first restore undone", Check.state(x), later);
        Used z = keptAndChanged();
        CHECK.due("keep()", z.keep(), ticks + 30);
        z.run(1);
        CHECK.due("restore()", z.restore(), ticks + 30);
        CHECK.same("the later snapshot", Check.state(z), later);
        Used y = new Used();
        CHECK.due("restore() of nothing", y.restore(), -5);
        CHECK.due("is not recorded", y.count(17), 0);
        CHECK.due("keep()", y.keep(), 0);
        CHECK.due("restore()", y.restore(), 0);
        CHECK.due("is recorded", y.count(17), 1);
    }

    private static void snapshotIsNotUndone() {
        Used x = new Used();
        x.run(5);
        x.keep();
        x.undo();
        CHECK.due("ticks", x.count(0), 0);
        CHECK.due("the snapshot stays", x.restore(), 5);
        x.run(7);
        x.keep();
        x.restore();
        x.undo();
        x.undo();
        CHECK.due("ticks", x.count(0), 5);
        CHECK.due("the latest snapshot", x.restore(), 12);
    }
}
