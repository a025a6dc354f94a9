import java.util.ArrayDeque;
import java.util.ArrayList;
import java.util.Deque;
import java.util.List;
import java.util.regex.Matcher;
import java.util.regex.Pattern;

/** The document once more, told as plainly as it goes and without regard to speed; ModelTest compares with it. */
final class PlainDrawer {
    private static final int[] LOW = {1, 1, 0, 0, 0, 10, 0, 0, 1, 0};
    private static final int[] HIGH = {20, 50, 20, 20, 5, 500, 100, 20, 12, 500};

    private static final String DISK = "(?:0|1[01]?|[2-9])";
    private static final String UP_TO_50 = "(?:[1-4][0-9]?|50?|[6-9])";
    private static final String UP_TO_200 = "(?:1[0-9]?[0-9]?|20?0?|2[1-9]|[3-9][0-9]?)";
    private static final String COMMAND =
        "(?:read " + DISK + " " + UP_TO_50 + "|fail " + DISK + "|run " + UP_TO_200 + "|fuse)";
    private static final Pattern PROGRAM = Pattern.compile(COMMAND + "(?:;" + COMMAND + ")*", Pattern.DOTALL);

    private record Asked(int number, int disk, int ticks, int left, int at) {
        Asked withLeft(int newLeft) {
            return new Asked(number, disk, ticks, newLeft, at);
        }
    }

    private static final class World implements Cloneable {
        int[] numbers = {6, 20, 6, 4, 1, 90, 10, 3, 3, 40};
        int[] doing = new int[12];
        int[] startLeft = new int[12];
        int[] failures = new int[12];
        int[] idle = new int[12];
        int[] diskStarts = new int[12];
        boolean[] fault = new boolean[12];
        List<Asked> reads = new ArrayList<>();
        int tick;
        int peak;
        int asked;
        int answered;
        int lost;
        int waited;
        int hot;
        int fuses;
        int starts;
        int failed;
        boolean blown;

        World copy() {
            World other;
            try {
                other = (World) clone();
            } catch (CloneNotSupportedException never) {
                throw new IllegalStateException(never);
            }
            other.numbers = numbers.clone();
            other.doing = doing.clone();
            other.startLeft = startLeft.clone();
            other.failures = failures.clone();
            other.idle = idle.clone();
            other.diskStarts = diskStarts.clone();
            other.fault = fault.clone();
            other.reads = new ArrayList<>(reads);
            return other;
        }

        List<Asked> readsOf(int disk) {
            return reads.stream().filter(read -> read.disk() == disk).toList();
        }

        int disksThat(int what) {
            int found = 0;
            for (int disk = 0; disk < 12; disk++) {
                if (doing[disk] == what) {
                    found++;
                }
            }
            return found;
        }

        int currentOf(int disk) {
            int[] by = {numbers[4], numbers[1], numbers[2], 0};
            boolean readsNow = doing[disk] == 2 && !readsOf(disk).isEmpty();
            return by[doing[disk]] + (readsNow ? numbers[3] : 0);
        }

        int current() {
            int sum = 0;
            for (int disk = 0; disk < 12; disk++) {
                sum += currentOf(disk);
            }
            return sum;
        }

        boolean canStart(int disk) {
            return doing[disk] == 0 && disksThat(1) < numbers[8]
                && current() - numbers[4] + numbers[1] <= numbers[5];
        }

        void tick() {
            if (blown) {
                for (int disk = 0; disk < 12; disk++) {
                    if (doing[disk] == 1 || doing[disk] == 2) {
                        doing[disk] = 0;
                        reads.replaceAll(read -> read.withLeft(read.ticks()));
                    }
                }
            } else {
                boolean[] failedNow = starts();
                reads();
                for (int disk = 0; disk < 12; disk++) {
                    if (!readsOf(disk).isEmpty() && !failedNow[disk] && canStart(disk)) {
                        doing[disk] = 1;
                        startLeft[disk] = numbers[0];
                        starts++;
                        diskStarts[disk]++;
                    }
                }
            }
            tick++;
            fuse();
        }

        private boolean[] starts() {
            boolean[] failedNow = new boolean[12];
            for (int disk = 0; disk < 12; disk++) {
                if (doing[disk] != 1) {
                    continue;
                }
                startLeft[disk]--;
                if (startLeft[disk] > 0) {
                    continue;
                }
                if (!fault[disk]) {
                    doing[disk] = 2;
                    failures[disk] = 0;
                    idle[disk] = 0;
                    continue;
                }
                fault[disk] = false;
                failedNow[disk] = true;
                doing[disk] = 0;
                failed++;
                failures[disk]++;
                if (failures[disk] == 3) {
                    doing[disk] = 3;
                    lost += readsOf(disk).size();
                    reads.removeAll(readsOf(disk));
                }
            }
            return failedNow;
        }

        private void reads() {
            for (int disk = 0; disk < 12; disk++) {
                if (doing[disk] != 2) {
                    continue;
                }
                if (readsOf(disk).isEmpty()) {
                    idle[disk]++;
                    if (numbers[9] != 0 && idle[disk] >= numbers[9]) {
                        doing[disk] = 0;
                    }
                    continue;
                }
                idle[disk] = 0;
                Asked first = readsOf(disk).get(0);
                int place = reads.indexOf(first);
                if (first.left() > 1) {
                    reads.set(place, first.withLeft(first.left() - 1));
                } else {
                    reads.remove(place);
                    answered++;
                    waited += tick + 1 - first.at();
                }
            }
        }

        private void fuse() {
            int now = current();
            peak = Math.max(peak, now);
            if (blown) {
                return;
            }
            boolean blows = false;
            if (now > numbers[5] + numbers[6]) {
                blows = true;
            } else if (now > numbers[5]) {
                hot++;
                blows = hot > numbers[7];
            } else {
                hot = 0;
            }
            if (blows) {
                blown = true;
                hot = 0;
                fuses++;
            }
        }

        Asked find(int number) {
            for (Asked read : reads) {
                if (read.number() == number) {
                    return read;
                }
            }
            return null;
        }
    }

    private World world = new World();
    private final Deque<World> history = new ArrayDeque<>();
    private World kept;
    private String text = "";

    private int act(World before, int answer) {
        if (answer >= 0) {
            history.addLast(before);
            if (history.size() > 4) {
                history.removeFirst();
            }
        } else {
            world = before;
        }
        return answer;
    }

    int set(int which, int value) {
        if (which < 0 || which > 9) {
            return -1;
        }
        if (value < LOW[which] || value > HIGH[which]) {
            return -2;
        }
        int previous = world.numbers[which];
        if (previous == value) {
            return -5;
        }
        World before = world.copy();
        world.numbers[which] = value;
        return act(before, previous);
    }

    int read(int disk, int ticks) {
        return act(world.copy(), doRead(disk, ticks));
    }

    private int doRead(int disk, int ticks) {
        if (disk < 0 || disk > 11) {
            return -1;
        }
        if (ticks < 1 || ticks > 50) {
            return -2;
        }
        if (world.doing[disk] == 3) {
            return -4;
        }
        if (world.reads.size() == 30 || world.asked == 500) {
            return -3;
        }
        world.reads.add(new Asked(world.asked, disk, ticks, ticks, world.tick));
        return world.asked++;
    }

    int drop(int read) {
        if (world.find(read) == null) {
            return -1;
        }
        World before = world.copy();
        world.reads.remove(world.find(read));
        return act(before, world.reads.size());
    }

    int fail(int disk) {
        return act(world.copy(), doFail(disk));
    }

    private int doFail(int disk) {
        if (disk < 0 || disk > 11) {
            return -1;
        }
        if (world.doing[disk] == 3) {
            return -4;
        }
        if (world.fault[disk]) {
            return -5;
        }
        world.fault[disk] = true;
        int planned = 0;
        for (boolean each : world.fault) {
            planned += each ? 1 : 0;
        }
        return planned;
    }

    int replace(int disk) {
        if (disk < 0 || disk > 11) {
            return -1;
        }
        World before = world.copy();
        int did = world.doing[disk];
        world.doing[disk] = 0;
        world.failures[disk] = 0;
        world.diskStarts[disk] = 0;
        world.fault[disk] = false;
        world.reads.replaceAll(read -> read.disk() == disk ? read.withLeft(read.ticks()) : read);
        return act(before, did);
    }

    int fuse() {
        return act(world.copy(), doFuse());
    }

    private int doFuse() {
        if (!world.blown) {
            return -5;
        }
        world.blown = false;
        return world.current();
    }

    int run(int ticks) {
        return act(world.copy(), doRun(ticks));
    }

    private int doRun(int ticks) {
        if (ticks < 1 || ticks > 200) {
            return -2;
        }
        if (world.tick + ticks > 99999) {
            return -3;
        }
        int before = world.answered;
        for (int tick = 0; tick < ticks; tick++) {
            world.tick();
        }
        return world.answered - before;
    }

    int type(char character) {
        if (text.length() == 80) {
            return -3;
        }
        text += character;
        return text.length();
    }

    int clearText() {
        int had = text.length();
        text = "";
        return had;
    }

    /** The fault is behind the longest beginning of the text with which a program can begin. */
    private int fault() {
        for (int length = 1; length <= text.length(); length++) {
            Matcher matcher = PROGRAM.matcher(text.substring(0, length));
            if (!matcher.matches() && !matcher.hitEnd()) {
                return length - 1;
            }
        }
        return PROGRAM.matcher(text).matches() ? -1 : text.length();
    }

    int perform() {
        if (fault() >= 0) {
            return -100 - fault();
        }
        World before = world.copy();
        String[] commands = text.split(";");
        for (String command : commands) {
            int answer = command(command.split(" "));
            if (answer < 0 && answer != -5) {
                world = before;
                return -4;
            }
        }
        return act(before, commands.length);
    }

    private int command(String[] words) {
        return switch (words[0]) {
            case "read" -> doRead(Integer.parseInt(words[1]), Integer.parseInt(words[2]));
            case "fail" -> doFail(Integer.parseInt(words[1]));
            case "run" -> doRun(Integer.parseInt(words[1]));
            default -> doFuse();
        };
    }

    int undo() {
        if (history.isEmpty()) {
            return -5;
        }
        world = history.removeLast();
        return history.size();
    }

    int keep() {
        kept = world.copy();
        return world.tick;
    }

    int restore() {
        if (kept == null) {
            return -5;
        }
        World before = world;
        world = kept.copy();
        return act(before, world.tick);
    }

    int disk(int disk, int what) {
        if (disk < 0 || disk > 11) {
            return -1;
        }
        return switch (what) {
            case 0 -> world.doing[disk];
            case 1 -> world.currentOf(disk);
            case 2 -> world.doing[disk] == 1 ? world.startLeft[disk] : 0;
            case 3 -> world.failures[disk];
            case 4 -> world.doing[disk] == 2 ? world.idle[disk] : 0;
            case 5 -> world.readsOf(disk).size();
            case 6 -> world.fault[disk] ? 1 : 0;
            case 7 -> world.diskStarts[disk];
            default -> -2;
        };
    }

    int readOf(int number, int what) {
        Asked read = world.find(number);
        if (read == null) {
            return -1;
        }
        return switch (what) {
            case 0 -> read.disk();
            case 1 -> read.ticks();
            case 2 -> read.left();
            case 3 -> world.readsOf(read.disk()).indexOf(read);
            case 4 -> world.tick - read.at();
            default -> -2;
        };
    }

    int couldStart() {
        World tried = world.copy();
        int could = 0;
        for (int disk = 0; disk < 12 && !tried.blown; disk++) {
            if (tried.canStart(disk)) {
                tried.doing[disk] = 1;
                could++;
            }
        }
        return could;
    }

    int answeredIn(int read) {
        if (world.find(read) == null) {
            return -1;
        }
        World tried = world.copy();
        for (int tick = 1; tick <= 400; tick++) {
            int lost = tried.lost;
            tried.tick();
            if (tried.find(read) == null) {
                return tried.lost > lost && tried.doing[world.find(read).disk()] == 3 ? -5 : tick;
            }
        }
        return -5;
    }

    int ifAtOnce(int most, int what) {
        if (most < 1 || most > 12 || what < 0 || what > 2) {
            return -2;
        }
        World tried = world.copy();
        tried.numbers[8] = most;
        if (what == 0) {
            for (int tick = 0; tick <= 400; tick++) {
                if (tried.reads.isEmpty()) {
                    return tick;
                }
                tried.tick();
            }
            return -5;
        }
        int greatest = 0;
        for (int tick = 0; tick < 100; tick++) {
            tried.tick();
            greatest = Math.max(greatest, tried.current());
        }
        return what == 1 ? greatest : tried.blown ? 1 : 0;
    }

    int bestAtOnce() {
        int best = -5;
        int soonest = Integer.MAX_VALUE;
        for (int most = 1; most <= 12; most++) {
            int ticks = ifAtOnce(most, 0);
            if (ticks != -5 && ticks < soonest) {
                soonest = ticks;
                best = most;
            }
        }
        return best;
    }

    int count(int what) {
        if (what >= 20 && what <= 29) {
            return world.numbers[what - 20];
        }
        return switch (what) {
            case 0 -> world.tick;
            case 1 -> world.current();
            case 2 -> world.peak;
            case 3 -> world.reads.size();
            case 4 -> world.asked;
            case 5 -> world.answered;
            case 6 -> world.lost;
            case 7, 8, 9, 10 -> world.disksThat(what - 7);
            case 11 -> world.blown ? 1 : 0;
            case 12 -> world.hot;
            case 13 -> world.fuses;
            case 14 -> world.starts;
            case 15 -> world.failed;
            case 16 -> world.waited;
            case 17 -> history.size();
            case 18 -> text.length();
            default -> -2;
        };
    }
}
