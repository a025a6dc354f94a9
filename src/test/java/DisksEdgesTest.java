/** Edges of DISKS (what a disk does, its current) and of promises 5, 6 and 15. */
public final class DisksEdgesTest {
    private static final Check CHECK = new Check("DisksEdgesTest");
    private static final int[] NO_DISKS = {Integer.MIN_VALUE, -1, 12, 13, Integer.MAX_VALUE};

    public static void main(String[] args) {
        whatADiskDoes();
        currentOfNow();
        whichDisk();
        faultsPlanned();
        orderOfErrorsOfFail();
        nextStartThatEnds();
        startsOfAnyTicksFail();
        plannedBehindTheStart();
        plannedForACutOffStart();
        replaceTellsWhatItDid();
        replacedOneHasNothing();
        readsOfTheOldOneWait();
        allReadsWait();
        readsOfABrokenOneStayLost();
        replacedInTheLastTick();
        whatOfDisk();
        eachWhat();
        CHECK.end();
    }

    private static void whatADiskDoes() {
        CHECK.sentence("A disk stands by (0, at first), starts (1), spins (2), or is broken (3).");
        Used x = new Used();
        for (int disk = 0; disk < 12; disk++) {
            CHECK.due("at first", x.disk(disk, 0), 0);
        }
        x.read(11, 1);
        CHECK.due("with a read, before a tick", x.disk(11, 0), 0);
        x.run(1);
        CHECK.due("behind a tick", x.disk(11, 0), 1);
        x.run(6);
        CHECK.due("behind its start", x.disk(11, 0), 2);
        CHECK.due("behind its third failed start", Drawers.broken(11).disk(11, 0), 3);
    }

    private static void currentOfNow() {
        CHECK.sentence("The current of now is the sum of those of all disks: a broken one has none, one that stands by "
            + "that of standing by, one that starts that of a start, one that spins that of spinning, and that of a "
            + "read if it reads.");
        Used x = Drawers.broken(0);
        CHECK.due("of a broken one", x.disk(0, 1), 0);
        CHECK.due("of eleven", x.count(1), 11);
        x.set(4, 0);
        CHECK.due("of none", x.count(1), 0);
        x.set(4, 5);
        x.set(9, 0);
        x.read(1, 1);
        x.read(2, 9);
        x.run(2);
        x.set(0, 20);
        x.read(3, 1);
        x.run(1);
        x.set(1, 50);
        x.set(2, 20);
        x.set(3, 13);
        CHECK.due("of one that spins", x.disk(1, 1), 20);
        CHECK.due("of one that reads", x.disk(2, 1), 33);
        CHECK.due("of one that starts, though it has a read", x.disk(3, 1), 50);
        CHECK.due("of one that stands by", x.disk(4, 1), 5);
        CHECK.due("the sum", x.count(1), 0 + 20 + 33 + 50 + 8 * 5);
        CHECK.sentence("A disk reads now if it spins and has a read.");
        x.read(1, 1);
        CHECK.due("as soon as it was asked for", x.disk(1, 1), 33);
        x.drop(x.count(4) - 1);
        CHECK.due("until it was taken back", x.disk(1, 1), 20);
        x.read(5, 1);
        CHECK.due("not one that stands by", x.disk(5, 1), 5);
    }

    private static void whichDisk() {
        CHECK.sentence("`disk`: 0 to 11");
        Used x = new Used();
        for (int disk : NO_DISKS) {
            CHECK.due("fail(" + disk + ")", x.fail(disk), -1);
            CHECK.due("replace(" + disk + ")", x.replace(disk), -1);
            CHECK.due("disk(" + disk + ", 0)", x.disk(disk, 0), -1);
        }
        CHECK.due("fail(0)", x.fail(0), 1);
        CHECK.due("fail(11)", x.fail(11), 2);
        CHECK.due("disk(0, 6)", x.disk(0, 6), 1);
        CHECK.due("disk(11, 6)", x.disk(11, 6), 1);
        CHECK.due("replace(0)", x.replace(0), 0);
        CHECK.due("replace(11)", x.replace(11), 0);
        CHECK.due("disk(11, 6)", x.disk(11, 6), 0);
    }

    private static void faultsPlanned() {
        CHECK.sentence("Returns how many disks have a fault planned then; UNKNOWN; NOT_POSSIBLE if the disk is broken; "
            + "NONE if it is planned already.");
        Used x = new Used();
        for (int disk = 11; disk >= 0; disk--) {
            CHECK.due("fail(" + disk + ")", x.fail(disk), 12 - disk);
            CHECK.due("fail(" + disk + ") again", x.fail(disk), -5);
        }
        x.replace(4);
        CHECK.due("one less, and one more", x.fail(4), 12);
        x.set(0, 1);
        x.read(7, 1);
        x.run(2);
        CHECK.due("its plan is used up", x.disk(7, 6), 0);
        CHECK.due("planned once more", x.fail(7), 12);
    }

    private static void orderOfErrorsOfFail() {
        CHECK.sentence("NOT_POSSIBLE if the disk is broken; NONE if it is planned already.");
        Used x = Drawers.failedTwice(3);
        CHECK.due("behind two failed starts", x.fail(3), 1);
        CHECK.due("planned already", x.fail(3), -5);
        x.run(2);
        CHECK.due("behind three", x.fail(3), -4);
        CHECK.due("a broken one has none planned", x.disk(3, 6), 0);
        CHECK.due("no such disk", x.fail(12), -1);
        CHECK.due("others are as they were", x.fail(2), 1);
    }

    private static void nextStartThatEnds() {
        CHECK.sentence("Plans that the next start of a disk that ends fails.");
        for (int ticks = 0; ticks <= 6; ticks++) {
            Used x = new Used();
            x.read(0, 1);
            if (ticks > 0) {
                x.run(ticks);
            }
            CHECK.due("planned behind tick " + ticks, x.fail(0), 1);
            if (ticks < 6) {
                x.run(6 - ticks);
            }
            CHECK.due("before its end the start goes on", x.disk(0, 0), 1);
            CHECK.due("and the fault is planned", x.disk(0, 6), 1);
            x.run(1);
            CHECK.due("at its end it fails", x.disk(0, 0), 0);
            CHECK.due("failed starts", x.count(15), 1);
            CHECK.due("the next one does not", x.run(7), 1);
            CHECK.due("failed starts still", x.count(15), 1);
        }
    }

    private static void startsOfAnyTicksFail() {
        CHECK.sentence("Plans that the next start of a disk that ends fails.");
        for (int ticks : new int[] {1, 2, 19, 20}) {
            for (int behind = 0; behind <= 1; behind++) {
                Used x = new Used();
                x.set(0, ticks);
                x.read(0, 1);
                if (behind == 0) {
                    x.fail(0);
                }
                x.run(1);
                if (behind == 1) {
                    x.fail(0);
                }
                x.run(ticks);
                CHECK.due("failed starts of " + ticks + " ticks", x.count(15), 1);
                CHECK.due("the fault is used up", x.disk(0, 6), 0);
                CHECK.due("the next one does not fail", x.run(1 + ticks), 1);
            }
        }
    }

    private static void plannedBehindTheStart() {
        CHECK.sentence("Plans that the next start of a disk that ends fails.");
        Used x = new Used();
        x.set(9, 1);
        x.read(0, 1);
        CHECK.due("the start has ended", x.run(7), 1);
        x.fail(0);
        x.run(1);
        CHECK.due("it rests, with the fault planned", x.disk(0, 0) * 10 + x.disk(0, 6), 1);
        x.read(0, 1);
        CHECK.due("the next start fails", x.run(7), 0);
        CHECK.due("failed starts", x.disk(0, 3), 1);
    }

    private static void plannedForACutOffStart() {
        CHECK.sentence("(a start that was cut off does not count as failed; what was read of a read so far is lost)");
        Used x = new Used();
        x.read(0, 1);
        x.fail(0);
        x.run(5);
        Drawers.blow(x);
        CHECK.due("its last tick is left", x.disk(0, 2), 1);
        x.run(1);
        CHECK.due("it stands by", x.disk(0, 0), 0);
        CHECK.due("none failed", x.count(15), 0);
        CHECK.due("of this disk, too", x.disk(0, 3), 0);
        CHECK.due("the fault is planned still", x.disk(0, 6), 1);
        x.fuse();
        x.set(5, 90);
        x.run(7);
        CHECK.due("the next start ends, and fails", x.disk(0, 3), 1);
        CHECK.due("starts", x.disk(0, 7), 2);
    }

    private static void replaceTellsWhatItDid() {
        CHECK.sentence("Returns what the old one did (0 to 3); UNKNOWN.");
        Used x = new Used();
        CHECK.due("stood by", x.replace(0), 0);
        x.read(0, 9);
        CHECK.due("stood by with a read", x.replace(0), 0);
        x.run(1);
        CHECK.due("started", x.replace(0), 1);
        CHECK.due("the new one stands by", x.replace(0), 0);
        x.run(7);
        CHECK.due("spun", x.replace(0), 2);
        CHECK.due("each is an act", x.count(17), 4);
        Used y = Drawers.broken(0);
        CHECK.due("was broken", y.replace(0), 3);
        CHECK.due("the new one is not", y.replace(0), 0);
    }

    private static void nothing(Used x, int disk) {
        for (int what = 0; what < 8; what++) {
            if (what != 1 && what != 5) {
                CHECK.due("disk(" + disk + ", " + what + ") of a new one", x.disk(disk, what), 0);
            }
        }
    }

    private static void replacedOneHasNothing() {
        CHECK.sentence("Puts a new disk in the place of one, which stands by, without anything of the old one "
            + "(no fault is planned for it); the reads of the old one wait for it, from their beginning.");
        Used x = Drawers.failedTwice(5);
        x.fail(5);
        x.fail(6);
        x.replace(5);
        nothing(x, 5);
        CHECK.due("a fault of another disk stays planned", x.disk(6, 6), 1);
        x.fail(5);
        x.run(2);
        CHECK.due("its first failed start breaks it not", x.disk(5, 3), 1);
        x.run(2);
        x.replace(5);
        nothing(x, 5);
        Used y = Drawers.broken(5);
        y.replace(5);
        nothing(y, 5);
        CHECK.due("starts of the drawer stay", y.count(14), 3);
        CHECK.due("failed ones, too", y.count(15), 3);
        Used z = new Used();
        z.read(5, 1);
        z.run(17);
        CHECK.due("idle ticks of the old one", z.disk(5, 4), 10);
        z.replace(5);
        nothing(z, 5);
    }

    private static void readsOfTheOldOneWait() {
        CHECK.sentence("the reads of the old one wait for it, from their beginning.");
        Used x = new Used();
        x.read(5, 3);
        x.read(5, 50);
        x.read(6, 3);
        x.run(8);
        CHECK.due("left of 0", x.readOf(0, 2), 1);
        x.replace(5);
        CHECK.due("of 0 all is left", x.readOf(0, 2), 3);
        CHECK.due("of 1, too", x.readOf(1, 2), 50);
        CHECK.due("of another disk not", x.readOf(2, 2), 1);
        CHECK.due("both wait", x.disk(5, 5), 2);
        CHECK.due("none is lost", x.count(6), 0);
        CHECK.due("asked for as long ago", x.readOf(0, 4), 8);
        CHECK.due("the first is answered behind a start", x.answeredIn(0), 9);
        CHECK.due("the other one behind it", x.answeredIn(1), 59);
        x.undo();
        CHECK.due("undone", x.readOf(0, 2), 1);
    }

    private static void allReadsWait() {
        CHECK.sentence("the reads of the old one wait for it, from their beginning.");
        for (int disk : new int[] {0, 11}) {
            Used x = new Used();
            for (int read = 0; read < 30; read++) {
                x.read(disk, 9);
            }
            x.run(7);
            CHECK.due("the first goes on", x.readOf(0, 2), 8);
            CHECK.due("replace(" + disk + ")", x.replace(disk), 2);
            CHECK.due("left of the first", x.readOf(0, 2), 9);
            CHECK.due("left of the 30th", x.readOf(29, 2), 9);
            CHECK.due("all wait", x.disk(disk, 5), 30);
        }
    }

    private static void readsOfABrokenOneStayLost() {
        CHECK.sentence("it stays so, and all its reads are lost.");
        Used x = Drawers.broken(5);
        x.replace(5);
        CHECK.due("no read waits for the new one", x.disk(5, 5), 0);
        CHECK.due("the lost one stays lost", x.count(6), 1);
        CHECK.due("it is not told", x.readOf(0, 0), -1);
        CHECK.due("the new one can be asked", x.read(5, 1), 1);
        CHECK.due("and answers", x.run(2), 1);
    }

    private static void replacedInTheLastTick() {
        CHECK.sentence("Puts a new disk in the place of one, which stands by");
        Used x = new Used();
        x.read(5, 1);
        x.fail(5);
        x.run(6);
        CHECK.due("its last tick is left", x.disk(5, 2), 1);
        CHECK.due("replace(5)", x.replace(5), 1);
        x.run(1);
        CHECK.due("no start ended", x.count(15), 0);
        CHECK.due("a new one begins", x.disk(5, 2), 6);
        CHECK.due("starts of the drawer", x.count(14), 2);
        CHECK.due("of this disk", x.disk(5, 7), 1);
    }

    private static void whatOfDisk() {
        CHECK.sentence("7 for all starts so far (of this disk)");
        CHECK.sentence("Returns the number; UNKNOWN; BAD_VALUE.");
        Used x = new Used();
        for (int what : new int[] {Integer.MIN_VALUE, -1, 8, 9, Integer.MAX_VALUE}) {
            CHECK.due("disk(0, " + what + ")", x.disk(0, what), -2);
            for (int disk : NO_DISKS) {
                CHECK.due("no such disk ahead of a bad value", x.disk(disk, what), -1);
            }
        }
        CHECK.due("disk(11, 7)", x.disk(11, 7), 0);
    }

    private static void told(String when, Used x, int disk, int... due) {
        for (int what = 0; what < due.length; what++) {
            CHECK.due(when + ": disk(" + disk + ", " + what + ")", x.disk(disk, what), due[what]);
        }
    }

    private static void eachWhat() {
        CHECK.sentence("It has a count of starts that failed one behind the other, and of how many ticks it was idle.");
        CHECK.sentence("`what`: 0 for what it does (0 to 3), 1 for its current, 2 for ticks until its start ends (0 if "
            + "it does not start), 3 for its failed starts one behind the other, 4 for its idle ticks (0 if it does "
            + "not spin), 5 for its reads (those that wait and go on), 6 for whether a fault is planned "
            + "(1, otherwise 0)");
        Used x = new Used();
        x.set(9, 3);
        x.set(0, 2);
        told("new", x, 9, 0, 1, 0, 0, 0, 0, 0, 0);
        x.read(9, 1);
        x.read(9, 1);
        x.fail(9);
        told("asked", x, 9, 0, 1, 0, 0, 0, 2, 1, 0);
        x.run(1);
        told("starts", x, 9, 1, 20, 2, 0, 0, 2, 1, 1);
        x.run(1);
        told("starts still", x, 9, 1, 20, 1, 0, 0, 2, 1, 1);
        x.run(1);
        told("failed", x, 9, 0, 1, 0, 1, 0, 2, 0, 1);
        x.run(1);
        told("starts again", x, 9, 1, 20, 2, 1, 0, 2, 0, 2);
        x.run(2);
        told("spins, and answered one", x, 9, 2, 10, 0, 0, 0, 1, 0, 2);
        x.run(1);
        told("answered both", x, 9, 2, 6, 0, 0, 0, 0, 0, 2);
        x.run(1);
        told("idle", x, 9, 2, 6, 0, 0, 1, 0, 0, 2);
        x.run(1);
        told("idle again", x, 9, 2, 6, 0, 0, 2, 0, 0, 2);
        x.run(1);
        told("rests", x, 9, 0, 1, 0, 0, 0, 0, 0, 2);
    }
}
