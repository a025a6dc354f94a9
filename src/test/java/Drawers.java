/** Drawers that stand at a boundary of the document, reached with as few calls as it goes. */
final class Drawers {
    private Drawers() {
    }

    /** A drawer with starts of 1 tick, in which the third start of a disk has just failed; its one read is lost. */
    static Used broken(int disk) {
        Used x = failedTwice(disk);
        x.fail(disk);
        x.run(2);
        return x;
    }

    /** As broken(), but the third start is still to come; the disk stands by, with the read 0 of 9 ticks. */
    static Used failedTwice(int disk) {
        Used x = new Used();
        x.set(0, 1);
        x.read(disk, 9);
        for (int failure = 0; failure < 2; failure++) {
            x.fail(disk);
            x.run(2);
        }
        return x;
    }

    /** A drawer with starts of 1 tick, in which so many reads were asked for and answered; its disks never rest. */
    static Used answered(int reads) {
        Used x = new Used();
        x.set(0, 1);
        x.set(9, 0);
        Check.write(x, "read 0 1;read 1 1;read 2 1;read 3 1;read 4 1;read 5 1;read 6 1;read 7 1;run 4");
        for (int done = 0; done + 8 <= reads; done += 8) {
            x.perform();
        }
        for (int rest = 0; rest < reads % 8; rest++) {
            x.read(rest, 1);
        }
        x.run(4);
        return x;
    }

    /** A drawer in which nothing but ticks passed. */
    static Used behind(int ticks) {
        Used x = new Used();
        Check.write(x, "run 200;run 200;run 200;run 200;run 200;run 200;run 200;run 200;run 200;run 200");
        int left = ticks;
        while (left >= 2000) {
            x.perform();
            left -= 2000;
        }
        while (left > 0) {
            x.run(Math.min(200, left));
            left -= Math.min(200, left);
        }
        return x;
    }

    /** A drawer whose fuse blew in its first and only tick; the fuse is of 90 again. */
    static Used blown() {
        Used x = new Used();
        blow(x);
        x.set(5, 90);
        return x;
    }

    /** Lets a tick pass in which the fuse blows; it is of 10 then, and bears 0 more. */
    static void blow(Used x) {
        x.set(5, 10);
        x.set(6, 0);
        x.set(7, 0);
        x.set(4, 5);
        x.run(1);
        x.set(4, 1);
    }
}
