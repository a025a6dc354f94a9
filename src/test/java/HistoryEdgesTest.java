import java.util.function.Supplier;
import java.util.function.ToIntFunction;

/** Edges of HISTORY and of promises 12, 13 and 14. */
public final class HistoryEdgesTest {
    private static final Check CHECK = new Check("HistoryEdgesTest");

    public static void main(String[] args) {
        fourStates();
        theOldestIsDropped();
        theLatestIsRestored();
        emptyHistory();
        undoIsNoAct();
        fullAgainBehindUndo();
        answersOfZeroAreRecorded();
        errorsAreNotRecorded();
        noSnapshot();
        snapshotStays();
        snapshotIsReplaced();
        restoreIsAnAct();
        keepIsNoAct();
        everythingIsInAState();
        textIsNotInAState();
        historyIsNotInAState();
        snapshotIsNotInAState();
        ticksTold();
        CHECK.end();
    }

    private static Used acted(int acts) {
        Used x = new Used();
        for (int act = 0; act < acts; act++) {
            x.run(1);
        }
        return x;
    }

    private static void fourStates() {
        CHECK.sentence("A history of at most 4 states is kept");
        int[] due = {0, 1, 2, 3, 4, 4, 4};
        for (int acts = 0; acts < due.length; acts++) {
            CHECK.due("states behind " + acts + " acts", acted(acts).count(17), due[acts]);
        }
        CHECK.due("behind many", acted(100).count(17), 4);
    }

    private static void theOldestIsDropped() {
        CHECK.sentence("when one more is recorded, the oldest one is dropped");
        for (int acts = 3; acts <= 9; acts++) {
            Used x = acted(acts);
            int states = Math.min(4, acts);
            for (int left = states - 1; left >= 0; left--) {
                CHECK.due("undo() behind " + acts, x.undo(), left);
            }
            CHECK.due("ticks of the oldest state behind " + acts, x.count(0), acts - states);
            CHECK.due("no more", x.undo(), -5);
            CHECK.due("ticks stay", x.count(0), acts - states);
        }
    }

    private static void theLatestIsRestored() {
        CHECK.sentence("Removes and restores the latest state of the history.");
        CHECK.sentence("undo() removes and restores the latest one.");
        Used x = new Used();
        x.set(0, 1);
        x.run(5);
        x.read(3, 9);
        CHECK.due("undo()", x.undo(), 2);
        CHECK.due("no read waits", x.count(3), 0);
        CHECK.due("ticks are as they were", x.count(0), 5);
        CHECK.due("undo()", x.undo(), 1);
        CHECK.due("ticks", x.count(0), 0);
        CHECK.due("the number is as it was", x.count(20), 1);
        CHECK.due("undo()", x.undo(), 0);
        CHECK.due("the number", x.count(20), 6);
    }

    private static void emptyHistory() {
        CHECK.sentence("Returns the number of states that are left; NONE if the history is empty.");
        CHECK.due("of a new one", new Used().undo(), -5);
        Used x = acted(1);
        CHECK.due("of one", x.undo(), 0);
        CHECK.due("of none", x.undo(), -5);
        CHECK.due("again", x.undo(), -5);
        CHECK.due("states", x.count(17), 0);
        x.run(1);
        CHECK.due("one more act", x.count(17), 1);
        CHECK.due("of one", x.undo(), 0);
    }

    private static void undoIsNoAct() {
        CHECK.sentence("Removes and restores the latest state of the history.");
        Used x = acted(3);
        CHECK.due("undo()", x.undo(), 2);
        CHECK.due("ticks", x.count(0), 2);
        CHECK.due("the next one undoes the act before, not the undo", x.undo(), 1);
        CHECK.due("ticks", x.count(0), 1);
    }

    private static void fullAgainBehindUndo() {
        CHECK.sentence("when one more is recorded, the oldest one is dropped");
        Used x = acted(4);
        x.undo();
        x.read(0, 1);
        CHECK.due("as many as fit", x.count(17), 4);
        x.undo();
        x.undo();
        x.undo();
        CHECK.due("the oldest is still there", x.undo(), 0);
        CHECK.due("no tick", x.count(0), 0);
        Used y = acted(4);
        y.undo();
        y.read(0, 1);
        y.read(0, 1);
        for (int left = 3; left >= 0; left--) {
            y.undo();
        }
        CHECK.due("one more drops it", y.count(0), 1);
    }

    private static void recorded(String call, Supplier<Used> before, ToIntFunction<Used> act, int due) {
        Used x = before.get();
        int states = x.count(17);
        CHECK.due(call, act.applyAsInt(x), due);
        CHECK.due("states behind " + call, x.count(17), states + 1);
        CHECK.due("undo() of " + call, x.undo(), states);
        CHECK.same("the state behind undo() of " + call, Check.state(x), Check.state(before.get()));
    }

    /** Three acts, none of them undone: no state that was taken from the history could be mistaken for the one now. */
    private static Used withARead() {
        Used x = new Used();
        x.read(4, 9);
        x.set(9, 0);
        x.run(9);
        return x;
    }

    private static Used withoutAReadYet() {
        Used x = new Used();
        x.set(9, 0);
        x.run(9);
        return x;
    }

    private static Used blownWithoutCurrent() {
        Used x = Drawers.blown();
        x.set(4, 0);
        x.keep();
        for (int left = 3; left >= 0; left--) {
            x.undo();
        }
        x.restore();
        x.fail(3);
        return x;
    }

    private static Used withAText() {
        Used x = withARead();
        Check.write(x, "fuse");
        return x;
    }

    private static Used withASnapshot() {
        Used x = new Used();
        x.keep();
        x.read(4, 9);
        return x;
    }

    private static void answersOfZeroAreRecorded() {
        CHECK.sentence("Each call of a method that is described as an act, and returns no error and not NONE, records "
            + "the state that was before it.");
        CHECK.sentence("This is an act.");
        recorded("set(9, 1)", HistoryEdgesTest::withARead, x -> x.set(9, 1), 0);
        recorded("read(0, 1)", HistoryEdgesTest::withoutAReadYet, x -> x.read(0, 1), 0);
        recorded("drop(0)", HistoryEdgesTest::withARead, x -> x.drop(0), 0);
        recorded("fail(0)", HistoryEdgesTest::withARead, x -> x.fail(0), 1);
        recorded("replace(0)", HistoryEdgesTest::withARead, x -> x.replace(0), 0);
        recorded("fuse()", HistoryEdgesTest::blownWithoutCurrent, Used::fuse, 0);
        recorded("run(1)", HistoryEdgesTest::withARead, x -> x.run(1), 0);
        recorded("perform()", HistoryEdgesTest::withAText, Used::perform, 1);
        recorded("restore()", HistoryEdgesTest::withASnapshot, Used::restore, 0);
    }

    private static void errorsAreNotRecorded() {
        CHECK.sentence("Each call of a method that is described as an act, and returns no error and not NONE, records "
            + "the state that was before it.");
        Used x = Drawers.broken(3);
        x.undo();
        x.undo();
        x.undo();
        x.undo();
        int[] answers = {
            x.set(10, 1), x.set(0, 0), x.set(0, 1), x.read(12, 1), x.read(0, 0), x.drop(7), x.fail(-1), x.replace(12),
            x.fuse(), x.run(0), x.perform(), x.undo(), x.restore(),
        };
        int[] due = {-1, -2, -5, -1, -2, -1, -1, -1, -5, -2, -100, -5, -5};
        for (int place = 0; place < due.length; place++) {
            CHECK.due("answer " + place, answers[place], due[place]);
        }
        CHECK.due("states", x.count(17), 0);
    }

    private static void noSnapshot() {
        CHECK.sentence("There is one snapshot, empty at first.");
        CHECK.due("restore() of a new one", new Used().restore(), -5);
        Used x = acted(5);
        CHECK.sentence("Returns the count of ticks then; NONE if there is no snapshot.");
        CHECK.due("restore() behind acts", x.restore(), -5);
        CHECK.due("ticks stay", x.count(0), 5);
        CHECK.due("states stay", x.count(17), 4);
        x.undo();
        CHECK.due("restore() behind undo()", x.restore(), -5);
    }

    private static void snapshotStays() {
        CHECK.sentence("Restores the state of the snapshot, which stays.");
        Used x = acted(2);
        x.keep();
        for (int turn = 0; turn < 7; turn++) {
            x.run(10 + turn);
            CHECK.due("restore()", x.restore(), 2);
            CHECK.due("ticks", x.count(0), 2);
        }
    }

    private static void snapshotIsReplaced() {
        CHECK.sentence("Takes a snapshot of the state, in place of the one that was.");
        Used x = acted(2);
        x.keep();
        x.run(3);
        x.keep();
        x.run(1);
        CHECK.due("the later one", x.restore(), 5);
        x.undo();
        x.undo();
        x.undo();
        CHECK.due("behind undo(), too", x.count(0), 2);
        CHECK.due("the later one", x.restore(), 5);
    }

    private static void restoreIsAnAct() {
        CHECK.sentence("Restores the state of the snapshot, which stays. This is an act.");
        Used x = acted(2);
        x.keep();
        CHECK.due("restore() of what is", x.restore(), 2);
        CHECK.due("is recorded", x.count(17), 3);
        x.run(7);
        CHECK.due("restore()", x.restore(), 2);
        CHECK.due("states", x.count(17), 4);
        CHECK.due("undo()", x.undo(), 3);
        CHECK.due("ticks before it", x.count(0), 9);
    }

    private static void keepIsNoAct() {
        CHECK.sentence("Takes a snapshot of the state, in place of the one that was.");
        Used x = acted(3);
        CHECK.due("keep()", x.keep(), 3);
        CHECK.due("states", x.count(17), 3);
        CHECK.due("undo()", x.undo(), 2);
        CHECK.due("undoes the act before", x.count(0), 2);
    }

    /** A drawer in which all that is told differs from a new one's. */
    private static Used changed(Used x) {
        Check.performed(x, "fail 1;read 1 9;run 9;fail 1;run 7;fail 1;run 9;read 2 1;read 3 50;run 9;fail 4");
        Check.performed(x, "fail 5;read 5 9;run 10;read 6 3;read 2 50;run 2");
        return x;
    }

    private static Used changedAndHot(Used x) {
        changed(x);
        x.set(5, 10);
        x.set(6, 100);
        x.run(2);
        return x;
    }

    private static void everythingIsInAState() {
        CHECK.sentence("A state is everything but the text, the history and the snapshot.");
        String fresh = Check.state(new Used());
        Used x = new Used();
        x.keep();
        changed(x);
        for (int what : new int[] {0, 2, 3, 4, 5, 6, 8, 9, 10, 14, 15, 16}) {
            CHECK.holds("count(" + what + ") is changed", x.count(what) != 0);
        }
        x.restore();
        CHECK.same("all of it is restored", Check.state(x), fresh);
        Used y = changed(new Used());
        y.undo();
        y.undo();
        CHECK.same("all of it is undone", Check.state(y), fresh);
        Used z = changedAndHot(new Used());
        CHECK.due("hot", z.count(12), 2);
        z.keep();
        Drawers.blow(z);
        z.run(1);
        CHECK.due("blown", z.count(13), 1);
        z.restore();
        CHECK.same("also what makes it hot", Check.state(z), Check.state(changedAndHot(new Used())));
    }

    private static void textIsNotInAState() {
        CHECK.sentence("A state is everything but the text, the history and the snapshot.");
        Used x = acted(1);
        Check.write(x, "run 7");
        x.keep();
        x.run(1);
        Check.write(x, "run 50");
        x.undo();
        CHECK.due("undo() leaves the text", x.count(18), 6);
        x.restore();
        CHECK.due("restore() leaves it", x.count(18), 6);
        x.perform();
        CHECK.due("as it was typed last", x.count(0), 51);
    }

    private static void historyIsNotInAState() {
        CHECK.sentence("A state is everything but the text, the history and the snapshot.");
        Used x = acted(1);
        x.keep();
        x.run(1);
        x.run(1);
        CHECK.due("restore()", x.restore(), 1);
        CHECK.due("the history is longer by one", x.count(17), 4);
        CHECK.due("undo()", x.undo(), 3);
        CHECK.due("ticks", x.count(0), 3);
    }

    private static void snapshotIsNotInAState() {
        CHECK.sentence("A state is everything but the text, the history and the snapshot.");
        Used x = acted(2);
        x.keep();
        x.undo();
        x.undo();
        CHECK.due("undo() leaves the snapshot", x.restore(), 2);
        Used y = acted(3);
        y.keep();
        y.run(1);
        y.restore();
        y.run(4);
        y.keep();
        y.restore();
        y.undo();
        y.undo();
        y.undo();
        CHECK.due("restore() and undo() leave it", y.restore(), 7);
    }

    private static void ticksTold() {
        CHECK.sentence("Returns the count of ticks.");
        CHECK.due("of a new one", new Used().keep(), 0);
        CHECK.due("behind 7", acted(7).keep(), 7);
        Used x = Drawers.behind(99999);
        CHECK.due("behind all", x.keep(), 99999);
        CHECK.due("restored", x.restore(), 99999);
    }
}
