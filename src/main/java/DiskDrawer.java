/**
 * A drawer of twelve small disks behind one fuse. DOC.md says what each method promises; README.md says how to use it.
 */
public final class DiskDrawer {
    /** There is no such number, disk or read. */
    public static final int UNKNOWN = -1;
    /** Another argument is out of range. */
    public static final int BAD_VALUE = -2;
    /** There is no more room. */
    public static final int FULL = -3;
    /** This is not possible. */
    public static final int NOT_POSSIBLE = -4;
    /** There is no such thing; not an error. */
    public static final int NONE = -5;

    private static final int DISKS = 12;
    private static final int READS_AT_A_TIME = 30;
    private static final int READS_EVER = 500;
    private static final int LONGEST_READ = 50;
    private static final int LONGEST_RUN = 200;
    private static final int LAST_TICK = 99999;
    private static final int FORESEEN_TICKS = 400;
    private static final int TRIED_TICKS = 100;
    private static final int FAILURES_THAT_BREAK = 3;
    private static final int TEXT_LENGTH = 80;
    /** The shortest command has four characters, and a ";" stands between two. */
    private static final int COMMANDS_IN_TEXT = (TEXT_LENGTH + 1) / 5;
    private static final int STATES_IN_HISTORY = 4;

    private static final int STANDS_BY = 0;
    private static final int STARTS = 1;
    private static final int SPINS = 2;
    private static final int BROKEN = 3;

    private static final int START_TICKS = 0;
    private static final int START_CURRENT = 1;
    private static final int SPIN_CURRENT = 2;
    private static final int READ_CURRENT = 3;
    private static final int STANDBY_CURRENT = 4;
    private static final int FUSE_CURRENT = 5;
    private static final int HOT_CURRENT = 6;
    private static final int HOT_TICKS = 7;
    private static final int STARTS_AT_ONCE = 8;
    private static final int IDLE_TICKS = 9;
    private static final int NUMBERS = 10;

    private static final int[] LOWEST = {1, 1, 0, 0, 0, 10, 0, 0, 1, 0};
    private static final int[] HIGHEST = {20, 50, 20, 20, 5, 500, 100, 20, 12, 500};
    private static final int[] AT_FIRST = {6, 20, 6, 4, 1, 90, 10, 3, 3, 40};

    private static final int FIRST_NUMBER_TOLD = 20;

    private final State now;
    /** What would come is tried on a copy, made once and used again. */
    private final State trial;
    private final State snapshot;
    private boolean hasSnapshot;
    private final Past past;
    private final Program program;

    /** Creates a drawer whose disks stand by. */
    public DiskDrawer() {
        now = new State();
        trial = new State();
        snapshot = new State();
        hasSnapshot = false;
        past = new Past();
        program = new Program();
    }

    // ---- numbers, disks, reads.

    /** Sets a number; returns the previous one; UNKNOWN; BAD_VALUE; NONE if it is so already. */
    public int set(int which, int value) {
        past.prepare(now);
        return past.recorded(now.setNumber(which, value));
    }

    /** Asks for a read; returns its number; UNKNOWN; BAD_VALUE; NOT_POSSIBLE if the disk is broken; FULL. */
    public int read(int disk, int ticks) {
        past.prepare(now);
        return past.recorded(now.addRead(disk, ticks));
    }

    /** Takes a read back; returns how many reads are left; UNKNOWN. */
    public int drop(int read) {
        past.prepare(now);
        return past.recorded(now.dropRead(read));
    }

    /** Plans that the next start of a disk that ends fails; returns how many have a fault planned; or an error. */
    public int fail(int disk) {
        past.prepare(now);
        return past.recorded(now.planFault(disk));
    }

    /** Puts a new disk in the place of one; returns what the old one did; UNKNOWN. */
    public int replace(int disk) {
        past.prepare(now);
        return past.recorded(now.replaceDisk(disk));
    }

    /** Puts a new fuse in; returns the current of now; NONE if the fuse is not blown. */
    public int fuse() {
        past.prepare(now);
        return past.recorded(now.renewFuse());
    }

    /** Lets ticks pass; returns how many reads are answered in them; BAD_VALUE; FULL. */
    public int run(int ticks) {
        past.prepare(now);
        return past.recorded(now.pass(ticks));
    }

    // ---- texts.

    /** Types a character behind the text; returns the length of the text then; FULL. */
    public int type(char character) {
        return program.append(character) ? program.length : FULL;
    }

    /** Empties the text; returns the length that it had. */
    public int clearText() {
        int had = program.length;
        program.length = 0;
        return had;
    }

    /** Does the commands of the text, all of them or none; returns how many; -100 minus the fault; NOT_POSSIBLE. */
    public int perform() {
        int fault = program.findFault();
        if (fault != Program.NO_FAULT) {
            return -100 - fault;
        }
        past.prepare(now);
        for (int place = 0; place < program.commands && place < COMMANDS_IN_TEXT; place++) {
            if (isError(obey(program.kinds[place], program.firsts[place], program.seconds[place]))) {
                past.revert(now);
                return NOT_POSSIBLE;
            }
        }
        return past.recorded(program.commands);
    }

    // ---- history.

    /** Removes and restores the latest state of the history; returns how many are left; NONE if it is empty. */
    public int undo() {
        return past.takeBack(now) ? past.size : NONE;
    }

    /** Takes a snapshot of the state; returns the count of ticks. */
    public int keep() {
        snapshot.copyFrom(now);
        hasSnapshot = true;
        return now.ticks;
    }

    /** Restores the state of the snapshot, which stays; returns the count of ticks then; NONE if there is none. */
    public int restore() {
        if (!hasSnapshot) {
            return NONE;
        }
        past.prepare(now);
        now.copyFrom(snapshot);
        return past.recorded(now.ticks);
    }

    // ---- what is told.

    /** Tells of a disk what DOC.md lists; UNKNOWN; BAD_VALUE. */
    public int disk(int disk, int what) {
        return now.tellDisk(disk, what);
    }

    /** Tells of a read what DOC.md lists; UNKNOWN; BAD_VALUE. */
    public int readOf(int read, int what) {
        return now.tellRead(read, what);
    }

    /** Tells how many disks that stand by could start now; 0 if the fuse is blown. */
    public int couldStart() {
        return now.startable();
    }

    /** Tells in how many ticks a read is answered; UNKNOWN; NONE if it is not in time, or lost. */
    public int answeredIn(int read) {
        int place = now.placeOf(read);
        if (place < 0) {
            return UNKNOWN;
        }
        trial.copyFrom(now);
        Disk itsDisk = trial.disks[now.reads[place].disk];
        // Behind a blown fuse nothing is read any more, so the rest needs no trying.
        for (int tick = 1; tick <= FORESEEN_TICKS && !trial.blown; tick++) {
            trial.tick();
            if (trial.placeOf(read) < 0) {
                return itsDisk.doing == BROKEN ? NONE : tick;
            }
        }
        return NONE;
    }

    /** Tells what another number of starts at once would bring; BAD_VALUE; NONE. */
    public int ifAtOnce(int most, int what) {
        if (!isWithin(most, LOWEST[STARTS_AT_ONCE], HIGHEST[STARTS_AT_ONCE]) || !isWithin(what, 0, 2)) {
            return BAD_VALUE;
        }
        if (what == 0) {
            return ticksUntilAllRead(most, FORESEEN_TICKS);
        }
        beginTrial(most);
        trial.peak = 0;
        for (int tick = 0; tick < TRIED_TICKS; tick++) {
            trial.tick();
        }
        return what == 1 ? trial.peak : flag(trial.blown);
    }

    /** Finds the number of starts at once with which no read waits the soonest, the lowest of several; NONE. */
    public int bestAtOnce() {
        int best = NONE;
        int limit = FORESEEN_TICKS;
        for (int most = LOWEST[STARTS_AT_ONCE]; most <= HIGHEST[STARTS_AT_ONCE] && limit >= 0; most++) {
            int needed = ticksUntilAllRead(most, limit);
            if (needed != NONE) {
                best = most;
                // A later one is the best only if it is sooner.
                limit = needed - 1;
            }
        }
        return best;
    }

    /** Tells the counts that DOC.md lists; BAD_VALUE. */
    public int count(int what) {
        if (what == 17) {
            return past.size;
        }
        if (what == 18) {
            return program.length;
        }
        return now.tellCount(what);
    }

    private int obey(int kind, int first, int second) {
        switch (kind) {
            case Program.READ:
                return now.addRead(first, second);
            case Program.FAIL:
                return now.planFault(first);
            case Program.RUN:
                return now.pass(first);
            default:
                return now.renewFuse();
        }
    }

    private void beginTrial(int startsAtOnce) {
        trial.copyFrom(now);
        trial.numbers[STARTS_AT_ONCE] = startsAtOnce;
    }

    private int ticksUntilAllRead(int startsAtOnce, int limit) {
        beginTrial(startsAtOnce);
        int tick = 0;
        while (tick < limit && trial.readCount > 0 && !trial.blown) {
            trial.tick();
            tick++;
        }
        return trial.readCount == 0 ? tick : NONE;
    }

    private static boolean isError(int answer) {
        return answer < 0 && answer != NONE;
    }

    private static boolean isWithin(int value, int lowest, int highest) {
        return value >= lowest && value <= highest;
    }

    private static int flag(boolean holds) {
        return holds ? 1 : 0;
    }

    /** One disk, and how many reads wait for it or go on. */
    private static final class Disk {
        int doing;
        int startLeft;
        int failures;
        int idle;
        int starts;
        boolean faultPlanned;
        int readCount;

        void copyFrom(Disk other) {
            doing = other.doing;
            startLeft = other.startLeft;
            failures = other.failures;
            idle = other.idle;
            starts = other.starts;
            faultPlanned = other.faultPlanned;
            readCount = other.readCount;
        }

        void standBy() {
            doing = STANDS_BY;
            startLeft = 0;
            idle = 0;
        }

        void beginStart(int ticks) {
            doing = STARTS;
            startLeft = ticks;
            starts++;
        }

        void spinUp() {
            doing = SPINS;
            failures = 0;
            idle = 0;
        }

        void failStart() {
            standBy();
            faultPlanned = false;
            failures++;
            if (failures >= FAILURES_THAT_BREAK) {
                doing = BROKEN;
            }
        }

        /** The reads are not the disk's own: they stay and wait for the new one. */
        void renew() {
            standBy();
            failures = 0;
            starts = 0;
            faultPlanned = false;
        }
    }

    /** One read that waits or goes on; with no tick left it is over, and is swept out of its state. */
    private static final class Read {
        int number;
        int disk;
        int ticks;
        int left;
        int askedAt;

        void copyFrom(Read other) {
            number = other.number;
            disk = other.disk;
            ticks = other.ticks;
            left = other.left;
            askedAt = other.askedAt;
        }
    }

    /** Everything but the text, the history and the snapshot. */
    private static final class State {
        final int[] numbers = new int[NUMBERS];
        final Disk[] disks = new Disk[DISKS];
        /** The first readCount rows are in use, in the order of their numbers; no row stands twice. */
        final Read[] reads = new Read[READS_AT_A_TIME];
        int readCount;
        int readsSoFar;
        int answered;
        int lost;
        int waited;
        int ticks;
        int peak;
        boolean blown;
        int hot;
        int fusesBlown;
        int starts;
        int failedStarts;

        State() {
            for (int which = 0; which < NUMBERS; which++) {
                numbers[which] = AT_FIRST[which];
            }
            for (int disk = 0; disk < DISKS; disk++) {
                disks[disk] = new Disk();
            }
            for (int place = 0; place < READS_AT_A_TIME; place++) {
                reads[place] = new Read();
            }
        }

        void copyFrom(State other) {
            for (int which = 0; which < NUMBERS; which++) {
                numbers[which] = other.numbers[which];
            }
            for (int disk = 0; disk < DISKS; disk++) {
                disks[disk].copyFrom(other.disks[disk]);
            }
            for (int place = 0; place < other.readCount; place++) {
                reads[place].copyFrom(other.reads[place]);
            }
            readCount = other.readCount;
            readsSoFar = other.readsSoFar;
            answered = other.answered;
            lost = other.lost;
            waited = other.waited;
            ticks = other.ticks;
            peak = other.peak;
            blown = other.blown;
            hot = other.hot;
            fusesBlown = other.fusesBlown;
            starts = other.starts;
            failedStarts = other.failedStarts;
        }

        // ---- acts: each returns what its public method does, and changes nothing with an error or NONE.

        int setNumber(int which, int value) {
            if (!isWithin(which, 0, NUMBERS - 1)) {
                return UNKNOWN;
            }
            if (!isWithin(value, LOWEST[which], HIGHEST[which])) {
                return BAD_VALUE;
            }
            int previous = numbers[which];
            if (previous == value) {
                return NONE;
            }
            numbers[which] = value;
            return previous;
        }

        int addRead(int disk, int ticksOfRead) {
            if (!isDisk(disk)) {
                return UNKNOWN;
            }
            if (!isWithin(ticksOfRead, 1, LONGEST_READ)) {
                return BAD_VALUE;
            }
            if (disks[disk].doing == BROKEN) {
                return NOT_POSSIBLE;
            }
            if (readCount >= READS_AT_A_TIME || readsSoFar >= READS_EVER) {
                return FULL;
            }
            Read added = reads[readCount];
            added.number = readsSoFar;
            added.disk = disk;
            added.ticks = ticksOfRead;
            added.left = ticksOfRead;
            added.askedAt = ticks;
            readCount++;
            readsSoFar++;
            disks[disk].readCount++;
            return added.number;
        }

        int dropRead(int number) {
            int place = placeOf(number);
            if (place < 0) {
                return UNKNOWN;
            }
            reads[place].left = 0;
            sweepReads();
            return readCount;
        }

        int planFault(int disk) {
            if (!isDisk(disk)) {
                return UNKNOWN;
            }
            if (disks[disk].doing == BROKEN) {
                return NOT_POSSIBLE;
            }
            if (disks[disk].faultPlanned) {
                return NONE;
            }
            disks[disk].faultPlanned = true;
            int planned = 0;
            for (int each = 0; each < DISKS; each++) {
                planned += flag(disks[each].faultPlanned);
            }
            return planned;
        }

        int replaceDisk(int disk) {
            if (!isDisk(disk)) {
                return UNKNOWN;
            }
            int did = disks[disk].doing;
            disks[disk].renew();
            for (int place = 0; place < readCount; place++) {
                if (reads[place].disk == disk) {
                    reads[place].left = reads[place].ticks;
                }
            }
            return did;
        }

        int renewFuse() {
            if (!blown) {
                return NONE;
            }
            blown = false;
            return currentOfNow();
        }

        int pass(int ticksToPass) {
            if (!isWithin(ticksToPass, 1, LONGEST_RUN)) {
                return BAD_VALUE;
            }
            if (ticks + ticksToPass > LAST_TICK) {
                return FULL;
            }
            int answeredBefore = answered;
            for (int tick = 0; tick < ticksToPass; tick++) {
                tick();
            }
            return answered - answeredBefore;
        }

        // ---- a tick.

        void tick() {
            if (blown) {
                cutOff();
            } else {
                int failed = goOnStarting();
                goOnReading();
                beginStarts(failed);
            }
            ticks++;
            strainFuse();
        }

        private void cutOff() {
            for (int disk = 0; disk < DISKS; disk++) {
                if (disks[disk].doing != BROKEN) {
                    disks[disk].standBy();
                }
            }
            for (int place = 0; place < readCount; place++) {
                reads[place].left = reads[place].ticks;
            }
        }

        /** Returns the disks whose start failed, a bit for each. */
        private int goOnStarting() {
            int failed = 0;
            for (int disk = 0; disk < DISKS; disk++) {
                Disk each = disks[disk];
                if (each.doing == STARTS) {
                    each.startLeft--;
                    if (each.startLeft <= 0 && each.faultPlanned) {
                        failed |= 1 << disk;
                        failedStarts++;
                        each.failStart();
                        if (each.doing == BROKEN) {
                            loseReadsOf(disk);
                        }
                    } else if (each.startLeft <= 0) {
                        each.spinUp();
                    }
                }
            }
            return failed;
        }

        /** The reads are swept out behind the reads of this tick. */
        private void loseReadsOf(int disk) {
            for (int place = 0; place < readCount; place++) {
                if (reads[place].disk == disk) {
                    reads[place].left = 0;
                    lost++;
                }
            }
        }

        private void goOnReading() {
            int busy = 0;
            for (int place = 0; place < readCount; place++) {
                Read each = reads[place];
                int bit = 1 << each.disk;
                if (disks[each.disk].doing == SPINS && (busy & bit) == 0) {
                    busy |= bit;
                    disks[each.disk].idle = 0;
                    each.left--;
                    if (each.left <= 0) {
                        answered++;
                        // The count of ticks grows later in this tick.
                        waited += ticks + 1 - each.askedAt;
                    }
                }
            }
            restIdle(busy);
            sweepReads();
        }

        private void restIdle(int busy) {
            for (int disk = 0; disk < DISKS; disk++) {
                Disk each = disks[disk];
                if (each.doing == SPINS && (busy & (1 << disk)) == 0) {
                    each.idle++;
                    if (numbers[IDLE_TICKS] > 0 && each.idle >= numbers[IDLE_TICKS]) {
                        each.standBy();
                    }
                }
            }
        }

        /** Takes out the reads that are over; rows change places, so that none stands twice. */
        private void sweepReads() {
            int kept = 0;
            for (int place = 0; place < readCount; place++) {
                Read each = reads[place];
                if (each.left > 0) {
                    reads[place] = reads[kept];
                    reads[kept] = each;
                    kept++;
                } else {
                    disks[each.disk].readCount--;
                }
            }
            readCount = kept;
        }

        private void beginStarts(int failed) {
            int current = currentOfNow();
            int starting = disksThat(STARTS);
            for (int disk = 0; disk < DISKS; disk++) {
                Disk each = disks[disk];
                boolean wanted = each.doing == STANDS_BY && each.readCount > 0 && (failed & (1 << disk)) == 0;
                if (wanted && mayStart(starting, current)) {
                    each.beginStart(numbers[START_TICKS]);
                    starts++;
                    starting++;
                    current += currentAddedByStart();
                }
            }
        }

        private boolean mayStart(int starting, int current) {
            return starting < numbers[STARTS_AT_ONCE] && current + currentAddedByStart() <= numbers[FUSE_CURRENT];
        }

        private int currentAddedByStart() {
            return numbers[START_CURRENT] - numbers[STANDBY_CURRENT];
        }

        private void strainFuse() {
            int current = currentOfNow();
            peak = Math.max(peak, current);
            if (blown) {
                return;
            }
            hot = current > numbers[FUSE_CURRENT] ? hot + 1 : 0;
            if (hot > numbers[HOT_TICKS] || current > numbers[FUSE_CURRENT] + numbers[HOT_CURRENT]) {
                blown = true;
                fusesBlown++;
                hot = 0;
            }
        }

        // ---- what is told.

        int currentOfNow() {
            int sum = 0;
            for (int disk = 0; disk < DISKS; disk++) {
                sum += currentOf(disks[disk]);
            }
            return sum;
        }

        private int currentOf(Disk disk) {
            switch (disk.doing) {
                case STANDS_BY:
                    return numbers[STANDBY_CURRENT];
                case STARTS:
                    return numbers[START_CURRENT];
                case SPINS:
                    return numbers[SPIN_CURRENT] + (disk.readCount > 0 ? numbers[READ_CURRENT] : 0);
                default:
                    return 0;
            }
        }

        private int disksThat(int doing) {
            int found = 0;
            for (int disk = 0; disk < DISKS; disk++) {
                found += flag(disks[disk].doing == doing);
            }
            return found;
        }

        int startable() {
            if (blown) {
                return 0;
            }
            int current = currentOfNow();
            int starting = disksThat(STARTS);
            int found = 0;
            for (int disk = 0; disk < DISKS; disk++) {
                if (disks[disk].doing == STANDS_BY && mayStart(starting + found, current)) {
                    found++;
                    current += currentAddedByStart();
                }
            }
            return found;
        }

        private static boolean isDisk(int disk) {
            return isWithin(disk, 0, DISKS - 1);
        }

        /** Returns where among the reads one stands, or UNKNOWN. */
        int placeOf(int number) {
            for (int place = 0; place < readCount; place++) {
                if (reads[place].number == number) {
                    return place;
                }
            }
            return UNKNOWN;
        }

        int tellDisk(int disk, int what) {
            if (!isDisk(disk)) {
                return UNKNOWN;
            }
            Disk told = disks[disk];
            switch (what) {
                case 0:
                    return told.doing;
                case 1:
                    return currentOf(told);
                case 2:
                    return told.startLeft;
                case 3:
                    return told.failures;
                case 4:
                    return told.idle;
                case 5:
                    return told.readCount;
                case 6:
                    return flag(told.faultPlanned);
                case 7:
                    return told.starts;
                default:
                    return BAD_VALUE;
            }
        }

        int tellRead(int number, int what) {
            int place = placeOf(number);
            if (place < 0) {
                return UNKNOWN;
            }
            Read told = reads[place];
            switch (what) {
                case 0:
                    return told.disk;
                case 1:
                    return told.ticks;
                case 2:
                    return told.left;
                case 3:
                    return readsAheadOf(place);
                case 4:
                    return ticks - told.askedAt;
                default:
                    return BAD_VALUE;
            }
        }

        private int readsAheadOf(int place) {
            int ahead = 0;
            for (int before = 0; before < place; before++) {
                ahead += flag(reads[before].disk == reads[place].disk);
            }
            return ahead;
        }

        int tellCount(int what) {
            if (isWithin(what, FIRST_NUMBER_TOLD, FIRST_NUMBER_TOLD + NUMBERS - 1)) {
                return numbers[what - FIRST_NUMBER_TOLD];
            }
            if (isWithin(what, 7, 10)) {
                return disksThat(what - 7);
            }
            switch (what) {
                case 0:
                    return ticks;
                case 1:
                    return currentOfNow();
                case 2:
                    return peak;
                case 3:
                    return readCount;
                case 4:
                    return readsSoFar;
                case 5:
                    return answered;
                case 6:
                    return lost;
                case 11:
                    return flag(blown);
                case 12:
                    return hot;
                case 13:
                    return fusesBlown;
                case 14:
                    return starts;
                case 15:
                    return failedStarts;
                case 16:
                    return waited;
                default:
                    return BAD_VALUE;
            }
        }
    }

    /** The history: the first rows are the recorded states, and the row behind them holds the one prepared. */
    private static final class Past {
        final State[] rows = new State[STATES_IN_HISTORY + 1];
        int size;

        Past() {
            for (int row = 0; row <= STATES_IN_HISTORY; row++) {
                rows[row] = new State();
            }
        }

        void prepare(State state) {
            rows[size].copyFrom(state);
        }

        void revert(State state) {
            state.copyFrom(rows[size]);
        }

        /** Records the prepared state if the answer of the act is neither an error nor NONE; hands the answer on. */
        int recorded(int answer) {
            if (answer < 0) {
                return answer;
            }
            if (size < STATES_IN_HISTORY) {
                size++;
            } else {
                forgetOldest();
            }
            return answer;
        }

        private void forgetOldest() {
            State oldest = rows[0];
            for (int row = 0; row < STATES_IN_HISTORY; row++) {
                rows[row] = rows[row + 1];
            }
            rows[STATES_IN_HISTORY] = oldest;
        }

        boolean takeBack(State state) {
            if (size <= 0) {
                return false;
            }
            size--;
            state.copyFrom(rows[size]);
            return true;
        }
    }

    /** The text, and the commands that were found in it. */
    private static final class Program {
        static final int READ = 0;
        static final int FAIL = 1;
        static final int RUN = 2;
        static final int FUSE = 3;
        static final int NO_FAULT = -1;
        private static final int NOTHING = -1;
        private static final int LONGEST_NUMBER = 3;

        final char[] text = new char[TEXT_LENGTH];
        int length;
        final int[] kinds = new int[COMMANDS_IN_TEXT];
        final int[] firsts = new int[COMMANDS_IN_TEXT];
        final int[] seconds = new int[COMMANDS_IN_TEXT];
        int commands;
        /** Where the text is looked at; it stays at a fault. */
        private int at;

        boolean append(char character) {
            if (length >= TEXT_LENGTH) {
                return false;
            }
            text[length] = character;
            length++;
            return true;
        }

        /** Finds the commands; returns the fault of the text, or NO_FAULT. */
        int findFault() {
            at = 0;
            commands = 0;
            for (int place = 0; place < COMMANDS_IN_TEXT; place++) {
                if (!takeCommand(place)) {
                    return at;
                }
                commands++;
                if (at >= length) {
                    return NO_FAULT;
                }
                if (!take(';')) {
                    return at;
                }
            }
            // So many commands fill the text: behind their last ";" it ends too early.
            return at;
        }

        private boolean takeCommand(int place) {
            kinds[place] = takeWord();
            switch (kinds[place]) {
                case READ:
                    return takeFirst(place, 0, DISKS - 1) && takeSecond(place, 1, LONGEST_READ);
                case FAIL:
                    return takeFirst(place, 0, DISKS - 1);
                case RUN:
                    return takeFirst(place, 1, LONGEST_RUN);
                case FUSE:
                    return true;
                default:
                    return false;
            }
        }

        private boolean takeFirst(int place, int lowest, int highest) {
            firsts[place] = takeArgument(lowest, highest);
            return firsts[place] != NOTHING;
        }

        private boolean takeSecond(int place, int lowest, int highest) {
            seconds[place] = takeArgument(lowest, highest);
            return seconds[place] != NOTHING;
        }

        private int takeArgument(int lowest, int highest) {
            return take(' ') ? takeNumber(lowest, highest) : NOTHING;
        }

        /** Takes as many letters as a word begins with; returns the word's kind if they are all of it. */
        private int takeWord() {
            int kind = READ;
            for (int other = FAIL; other <= FUSE; other++) {
                if (lettersOf(wordOf(other)) > lettersOf(wordOf(kind))) {
                    kind = other;
                }
            }
            int letters = lettersOf(wordOf(kind));
            at += letters;
            return letters == wordOf(kind).length() ? kind : NOTHING;
        }

        private int lettersOf(String word) {
            int letters = 0;
            while (letters < word.length() && isHere(letters, word.charAt(letters))) {
                letters++;
            }
            return letters;
        }

        private static String wordOf(int kind) {
            switch (kind) {
                case READ:
                    return "read";
                case FAIL:
                    return "fail";
                case RUN:
                    return "run";
                default:
                    return "fuse";
            }
        }

        /** A digit that is not allowed is left where it is: no number is followed by a digit, so it is the fault. */
        private int takeNumber(int lowest, int highest) {
            int value = digitHere();
            if (value < lowest || value == NOTHING) {
                return NOTHING;
            }
            at++;
            for (int digits = 1; digits < LONGEST_NUMBER; digits++) {
                int digit = digitHere();
                if (digit == NOTHING || value == 0 || value * 10 + digit > highest) {
                    return value;
                }
                value = value * 10 + digit;
                at++;
            }
            return value;
        }

        private int digitHere() {
            if (at >= length || at >= TEXT_LENGTH || text[at] < '0' || text[at] > '9') {
                return NOTHING;
            }
            return text[at] - '0';
        }

        private boolean take(char wanted) {
            if (!isHere(0, wanted)) {
                return false;
            }
            at++;
            return true;
        }

        private boolean isHere(int further, char wanted) {
            int place = at + further;
            return place < length && place < TEXT_LENGTH && text[place] == wanted;
        }
    }
}
