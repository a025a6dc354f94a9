/** All promises: long runs of mixed calls, each answer compared with that of PlainDrawer, and all that is told. */
public final class ModelTest {
    private static final Check CHECK = new Check("ModelTest");
    private static final int[] LOW = {1, 1, 0, 0, 0, 10, 0, 0, 1, 0};
    private static final int[] HIGH = {20, 50, 20, 20, 5, 500, 100, 20, 12, 500};
    private static final int RUNS = 4000;
    /** Calls that one act, and that compareAll, may take at most. */
    private static final int CALLS_OF_AN_ACT = 90;
    private static final int CALLS_OF_COMPARING = 320;
    private static final String[] PIECES = {
        "read ", "fail ", "run ", "fuse", ";", " ", "0", "1", "5", "11", "12", "50", "51", "200", "201", "r", "f", "ru",
    };

    private static long seed;
    private static Used x;
    private static PlainDrawer y;

    public static void main(String[] args) {
        for (int run = 0; run < RUNS; run++) {
            seed = run * 7919L + 17;
            x = new Used();
            y = new PlainDrawer();
            if (run % 2 == 0) {
                shortRun("run " + run + ", call ", run / 2 % 6);
            } else {
                longRun("run " + run + ", call ", run / 2 % 6);
            }
        }
        CHECK.end();
    }

    /** A few acts, and then all that is told. */
    private static void shortRun(String run, int profile) {
        int acts = from(1, 60);
        for (int call = 0; call < acts && x.callsLeft() >= CALLS_OF_AN_ACT + CALLS_OF_COMPARING; call++) {
            act(run + call + ": ", profile);
        }
        compareAll(run + "last: ");
    }

    /** Acts to the last call that is promised, with something told behind each. */
    private static void longRun(String run, int profile) {
        int call = 0;
        while (x.callsLeft() >= CALLS_OF_AN_ACT) {
            act(run + call + ": ", profile);
            tell(run + call + ": ");
            call++;
        }
        while (x.callsLeft() > 0) {
            tell(run + call + ": ");
        }
    }

    /** A number from 0 to bound - 1, the same ones in each run of the test. */
    private static int any(int bound) {
        seed = seed * 6364136223846793005L + 1442695040888963407L;
        return (int) ((seed >>> 33) % bound);
    }

    private static int from(int low, int high) {
        return low + any(high - low + 1);
    }

    private static void act(String where, int profile) {
        int kind = any(100);
        int disk = any(40) == 0 ? from(-1, 12) : any(profile == 1 ? 3 : 12);
        if (kind < 14) {
            set(where, profile);
        } else if (kind < 40) {
            int ticks = any(20) == 0 ? from(0, 51) : from(1, profile == 2 ? 50 : 9);
            due(where + "read(" + disk + ", " + ticks + ")", x.read(disk, ticks), y.read(disk, ticks));
        } else if (kind < 43) {
            int read = y.count(4) - from(0, 20);
            due(where + "drop(" + read + ")", x.drop(read), y.drop(read));
        } else if (kind < 50) {
            due(where + "fail(" + disk + ")", x.fail(disk), y.fail(disk));
        } else if (kind < 53) {
            due(where + "replace(" + disk + ")", x.replace(disk), y.replace(disk));
        } else if (kind < 57) {
            due(where + "fuse()", x.fuse(), y.fuse());
        } else if (kind < 80) {
            int ticks = any(30) == 0 ? from(-1, 202) : from(1, profile == 3 ? 60 : 8);
            due(where + "run(" + ticks + ")", x.run(ticks), y.run(ticks));
        } else if (kind < 88) {
            program(where);
        } else {
            historyOrTold(where, kind);
        }
    }

    private static void set(String where, int profile) {
        int which = any(30) == 0 ? from(-1, 10) : any(10);
        int value = 0;
        if (which >= 0 && which < 10) {
            value = any(20) == 0 ? LOW[which] - 1 + any(2) * (HIGH[which] - LOW[which] + 2) : from(LOW[which], HIGH[which]);
            if (which == 5 && profile != 4 && value <= HIGH[which]) {
                value = from(profile == 5 ? 60 : 20, 160);
            } else if (which == 9 && any(3) > 0) {
                value = any(8);
            } else if (which == 0 && any(3) > 0) {
                value = from(1, 5);
            }
        }
        due(where + "set(" + which + ", " + value + ")", x.set(which, value), y.set(which, value));
    }

    private static void program(String where) {
        if (any(3) > 0) {
            due(where + "clearText()", x.clearText(), y.clearText());
            int commands = from(1, 6);
            for (int command = 0; command < commands; command++) {
                write((command == 0 ? "" : ";") + command());
            }
        }
        if (any(4) == 0) {
            for (int piece = any(12); piece > 0; piece--) {
                write(PIECES[any(PIECES.length)]);
            }
        }
        if (any(9) == 0) {
            write(String.valueOf((char) any(400)));
        }
        due(where + "perform()", x.perform(), y.perform());
        if (any(3) == 0) {
            due(where + "perform() again", x.perform(), y.perform());
        }
    }

    private static String command() {
        switch (any(4)) {
            case 0:
                return "read " + any(12) + " " + from(1, 50);
            case 1:
                return "fail " + any(12);
            case 2:
                return "run " + from(1, any(4) == 0 ? 200 : 9);
            default:
                return "fuse";
        }
    }

    private static void write(String text) {
        for (int place = 0; place < text.length(); place++) {
            due("type", x.type(text.charAt(place)), y.type(text.charAt(place)));
        }
    }

    private static void historyOrTold(String where, int kind) {
        if (kind < 92) {
            // Often many in a row, so that the oldest state is seen, too.
            for (int more = any(3) == 0 ? 5 : 1; more > 0; more--) {
                due(where + "undo()", x.undo(), y.undo());
                due(where + "ticks behind undo()", x.count(0), y.count(0));
            }
        } else if (kind < 94) {
            due(where + "keep()", x.keep(), y.keep());
        } else if (kind < 95) {
            due(where + "restore()", x.restore(), y.restore());
        } else if (kind < 98) {
            int read = y.count(4) - from(0, 12);
            due(where + "answeredIn(" + read + ")", x.answeredIn(read), y.answeredIn(read));
        } else if (kind < 99) {
            int most = from(0, 13);
            int what = from(-1, 3);
            due(where + "ifAtOnce(" + most + ", " + what + ")", x.ifAtOnce(most, what), y.ifAtOnce(most, what));
        } else {
            due(where + "bestAtOnce()", x.bestAtOnce(), y.bestAtOnce());
        }
    }

    private static void tell(String where) {
        int kind = any(20);
        if (kind < 9) {
            dueCount(where, from(-1, 30));
        } else if (kind < 13) {
            dueDisk(where, from(0, 11), from(0, 7));
        } else if (kind < 17) {
            dueRead(where, y.count(4) - from(0, 20), from(0, 4));
        } else if (kind < 18) {
            dueDisk(where, from(-1, 12), from(-1, 8));
            if (x.callsLeft() > 0) {
                dueRead(where, from(-1, y.count(4)), from(-1, 5));
            }
        } else {
            due(where + "couldStart()", x.couldStart(), y.couldStart());
        }
    }

    private static void dueCount(String where, int what) {
        due(where + "count(" + what + ")", x.count(what), y.count(what));
    }

    private static void dueDisk(String where, int disk, int what) {
        due(where + "disk(" + disk + ", " + what + ")", x.disk(disk, what), y.disk(disk, what));
    }

    private static void dueRead(String where, int read, int what) {
        due(where + "readOf(" + read + ", " + what + ")", x.readOf(read, what), y.readOf(read, what));
    }

    private static void compareAll(String where) {
        for (int what = -1; what <= 30; what++) {
            dueCount(where, what);
        }
        for (int disk = 0; disk < 12; disk++) {
            for (int what = 0; what < 8; what++) {
                dueDisk(where, disk, what);
            }
        }
        for (int read = y.count(4) - 60; read <= y.count(4); read++) {
            int lastWhat = y.readOf(read, 0) < 0 ? 0 : 4;
            for (int what = 0; what <= lastWhat; what++) {
                dueRead(where, read, what);
            }
        }
        due(where + "couldStart()", x.couldStart(), y.couldStart());
    }

    /** Behind the first wrong answer the two would go apart, and the rest would tell nothing. */
    private static void due(String what, int got, int want) {
        CHECK.due(what, got, want);
        if (got != want) {
            CHECK.end();
        }
    }
}
