/** A DiskDrawer that refuses its 513th call: what it would answer is free, so no test may lean on it. */
final class Used {
    static final int CALLS = 512;

    private final DiskDrawer drawer = new DiskDrawer();
    private int calls;

    private DiskDrawer next() {
        calls++;
        if (calls > CALLS) {
            throw new IllegalStateException("a test uses an object for more than " + CALLS + " calls");
        }
        return drawer;
    }

    int callsLeft() {
        return CALLS - calls;
    }

    int set(int which, int value) {
        return next().set(which, value);
    }

    int read(int disk, int ticks) {
        return next().read(disk, ticks);
    }

    int drop(int read) {
        return next().drop(read);
    }

    int fail(int disk) {
        return next().fail(disk);
    }

    int replace(int disk) {
        return next().replace(disk);
    }

    int fuse() {
        return next().fuse();
    }

    int run(int ticks) {
        return next().run(ticks);
    }

    int type(char character) {
        return next().type(character);
    }

    int clearText() {
        return next().clearText();
    }

    int perform() {
        return next().perform();
    }

    int undo() {
        return next().undo();
    }

    int keep() {
        return next().keep();
    }

    int restore() {
        return next().restore();
    }

    int disk(int disk, int what) {
        return next().disk(disk, what);
    }

    int readOf(int read, int what) {
        return next().readOf(read, what);
    }

    int couldStart() {
        return next().couldStart();
    }

    int answeredIn(int read) {
        return next().answeredIn(read);
    }

    int ifAtOnce(int most, int what) {
        return next().ifAtOnce(most, what);
    }

    int bestAtOnce() {
        return next().bestAtOnce();
    }

    int count(int what) {
        return next().count(what);
    }
}
