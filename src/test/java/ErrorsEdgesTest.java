import java.util.function.Supplier;
import java.util.function.ToIntFunction;

/** Edges of ERRORS: each error and each NONE of each method, that it changes nothing, and the order of the checks. */
public final class ErrorsEdgesTest {
    private static final Check CHECK = new Check("ErrorsEdgesTest");
    private static final int[] FAR =
        {Integer.MIN_VALUE, Integer.MIN_VALUE + 1, -100, Integer.MAX_VALUE - 1, Integer.MAX_VALUE};

    private static String situation;
    private static Supplier<Used> maker;
    private static String untouched;

    public static void main(String[] args) {
        constants();
        in("a new drawer", Used::new);
        argumentsOutOfRange();
        nothingThere();
        toldAlone();
        in("a drawer with something of everything", ErrorsEdgesTest::rich);
        argumentsOutOfRange();
        ofRich();
        toldAlone();
        in("a drawer with a blown fuse", ErrorsEdgesTest::richAndBlown);
        argumentsOutOfRange();
        ofRich();
        toldAlone();
        fullOfReads();
        fullOfText();
        fullOfTicks();
        orderOfChecks();
        noneOnlyWithoutAnError();
        CHECK.end();
    }

    private static void constants() {
        CHECK.sentence("Errors are reported by the constants below.");
        CHECK.sentence("The constants: `UNKNOWN = -1`: There is no such number, disk or read.");
        CHECK.due("UNKNOWN", DiskDrawer.UNKNOWN, -1);
        CHECK.sentence("`BAD_VALUE = -2`: Another argument is out of range.");
        CHECK.due("BAD_VALUE", DiskDrawer.BAD_VALUE, -2);
        CHECK.sentence("`FULL = -3`: There is no more room.");
        CHECK.due("FULL", DiskDrawer.FULL, -3);
        CHECK.sentence("`NOT_POSSIBLE = -4`: This is not possible.");
        CHECK.due("NOT_POSSIBLE", DiskDrawer.NOT_POSSIBLE, -4);
        CHECK.sentence("`NONE = -5`: There is no such thing; not an error.");
        CHECK.due("NONE", DiskDrawer.NONE, -5);
        CHECK.sentence("A call that returns an error or NONE changes nothing.");
    }

    /** Disk 0 is broken, 5 spins, 7 starts with a fault planned; four states, a snapshot, a text that can be done. */
    private static Used rich() {
        Used x = Drawers.broken(0);
        Check.write(x, "run 3;read 8 7;fail 9");
        x.keep();
        x.set(0, 9);
        x.read(5, 30);
        x.read(6, 2);
        x.run(13);
        x.read(7, 3);
        x.fail(7);
        x.read(5, 1);
        x.run(4);
        return x;
    }

    private static Used richAndBlown() {
        Used x = rich();
        x.undo();
        Drawers.blow(x);
        return x;
    }

    private static void in(String name, Supplier<Used> with) {
        situation = name;
        maker = with;
        untouched = whole(with.get());
    }

    /** All that a drawer tells, its history, its snapshot and its text, which are used up by that. */
    private static String whole(Used x) {
        StringBuilder told = new StringBuilder(Check.state(x));
        told.append("\nstates ").append(x.count(17)).append(" text ").append(x.count(18));
        for (int undone = 0; undone < 5; undone++) {
            told.append("\nundo ").append(x.undo()).append(some(x));
        }
        told.append("\nrestore ").append(x.restore()).append(some(x));
        told.append("\nperform ").append(x.perform()).append(some(x));
        return told.toString();
    }

    private static String some(Used x) {
        StringBuilder told = new StringBuilder();
        for (int what : new int[] {0, 1, 2, 3, 4, 5, 6, 12, 14, 15, 17, 18}) {
            told.append(' ').append(x.count(what));
        }
        return told.toString();
    }

    private static void unchanged(String call, ToIntFunction<Used> made, int due) {
        Used x = maker.get();
        CHECK.due(call + " in " + situation, made.applyAsInt(x), due);
        CHECK.same(situation + " behind " + call, whole(x), untouched);
    }

    private static void argumentsOutOfRange() {
        int[] lowest = {1, 1, 0, 0, 0, 10, 0, 0, 1, 0};
        int[] highest = {20, 50, 20, 20, 5, 500, 100, 20, 12, 500};
        for (int which = 0; which < 10; which++) {
            int number = which;
            unchanged("set(" + which + ", too low)", x -> x.set(number, lowest[number] - 1), -2);
            unchanged("set(" + which + ", too high)", x -> x.set(number, highest[number] + 1), -2);
            unchanged("set(" + which + ", as it is)", x -> x.set(number, x.count(20 + number)), -5);
        }
        for (int wrong : new int[] {-1, 12}) {
            unchanged("read(" + wrong + ", 1)", x -> x.read(wrong, 1), -1);
            unchanged("fail(" + wrong + ")", x -> x.fail(wrong), -1);
            unchanged("replace(" + wrong + ")", x -> x.replace(wrong), -1);
            unchanged("disk(" + wrong + ", 0)", x -> x.disk(wrong, 0), -1);
        }
        unchanged("read(11, 0)", x -> x.read(11, 0), -2);
        unchanged("read(11, 51)", x -> x.read(11, 51), -2);
        unchanged("run(0)", x -> x.run(0), -2);
        unchanged("run(201)", x -> x.run(201), -2);
        unchanged("disk(0, -1)", x -> x.disk(0, -1), -2);
        unchanged("disk(0, 8)", x -> x.disk(0, 8), -2);
        unchanged("ifAtOnce(0, 0)", x -> x.ifAtOnce(0, 0), -2);
        unchanged("ifAtOnce(13, 0)", x -> x.ifAtOnce(13, 0), -2);
        unchanged("ifAtOnce(1, -1)", x -> x.ifAtOnce(1, -1), -2);
        unchanged("ifAtOnce(1, 3)", x -> x.ifAtOnce(1, 3), -2);
        for (int wrong : new int[] {-1, 19, 30}) {
            unchanged("count(" + wrong + ")", x -> x.count(wrong), -2);
        }
        for (int wrong : FAR) {
            farOutOfRange(wrong);
        }
    }

    private static void farOutOfRange(int wrong) {
        unchanged("set(" + wrong + ", 5)", x -> x.set(wrong, 5), -1);
        unchanged("set(5, " + wrong + ")", x -> x.set(5, wrong), -2);
        unchanged("read(" + wrong + ", 5)", x -> x.read(wrong, 5), -1);
        unchanged("read(5, " + wrong + ")", x -> x.read(5, wrong), -2);
        unchanged("drop(" + wrong + ")", x -> x.drop(wrong), -1);
        unchanged("fail(" + wrong + ")", x -> x.fail(wrong), -1);
        unchanged("replace(" + wrong + ")", x -> x.replace(wrong), -1);
        unchanged("run(" + wrong + ")", x -> x.run(wrong), -2);
        unchanged("disk(" + wrong + ", 0)", x -> x.disk(wrong, 0), -1);
        unchanged("disk(0, " + wrong + ")", x -> x.disk(0, wrong), -2);
        unchanged("readOf(" + wrong + ", 0)", x -> x.readOf(wrong, 0), -1);
        unchanged("answeredIn(" + wrong + ")", x -> x.answeredIn(wrong), -1);
        unchanged("ifAtOnce(" + wrong + ", 0)", x -> x.ifAtOnce(wrong, 0), -2);
        unchanged("ifAtOnce(5, " + wrong + ")", x -> x.ifAtOnce(5, wrong), -2);
        unchanged("count(" + wrong + ")", x -> x.count(wrong), -2);
    }

    private static void nothingThere() {
        unchanged("set(10, 5)", x -> x.set(10, 5), -1);
        unchanged("drop(0)", x -> x.drop(0), -1);
        unchanged("readOf(0, 0)", x -> x.readOf(0, 0), -1);
        unchanged("answeredIn(0)", x -> x.answeredIn(0), -1);
        unchanged("fuse()", Used::fuse, -5);
        unchanged("clearText()", Used::clearText, 0);
        unchanged("perform()", Used::perform, -100);
        unchanged("undo()", Used::undo, -5);
        unchanged("restore()", Used::restore, -5);
    }

    private static void ofRich() {
        unchanged("read(0, 1), broken", x -> x.read(0, 1), -4);
        unchanged("fail(0), broken", x -> x.fail(0), -4);
        unchanged("fail(7), planned", x -> x.fail(7), -5);
        unchanged("drop(0), lost", x -> x.drop(0), -1);
        unchanged("drop(2), answered", x -> x.drop(2), -1);
        unchanged("drop(5), not asked for", x -> x.drop(5), -1);
        unchanged("readOf(0, 0), lost", x -> x.readOf(0, 0), -1);
        unchanged("readOf(1, -1)", x -> x.readOf(1, -1), -2);
        unchanged("readOf(1, 5)", x -> x.readOf(1, 5), -2);
        unchanged("answeredIn(0), lost", x -> x.answeredIn(0), -1);
        if (maker.get().count(11) == 0) {
            unchanged("fuse()", Used::fuse, -5);
        } else {
            unchanged("answeredIn(1), blown", x -> x.answeredIn(1), -5);
            unchanged("ifAtOnce(3, 0), blown", x -> x.ifAtOnce(3, 0), -5);
            unchanged("bestAtOnce(), blown", Used::bestAtOnce, -5);
        }
        texts();
    }

    /** Puts a text there, performs it, and puts back the one that was there. */
    private static int performedBetween(Used x, String text) {
        int answer = Check.performed(x, text);
        Check.write(x, "run 3;read 8 7;fail 9");
        return answer;
    }

    private static void texts() {
        String[] impossible =
            {"fail 0", "run 9;read 0 1", "fail 8;read 8 9;run 30;fail 9;read 9 1;fuse;read 0 1;run 1"};
        for (String text : impossible) {
            unchanged("perform() of \"" + text + "\"", x -> performedBetween(x, text), -4);
        }
        String[] faults = {"", "fail 12", "run 9;", "run 9;read 0 51", "fuse;x"};
        int[] due = {-100, -106, -106, -114, -105};
        for (int place = 0; place < faults.length; place++) {
            String text = faults[place];
            unchanged("perform() of \"" + text + "\"", x -> performedBetween(x, text), due[place]);
        }
    }

    /** What only tells changes nothing either. */
    private static void toldAlone() {
        for (int what = 0; what < 3; what++) {
            int told = what;
            int due = maker.get().ifAtOnce(12, what);
            unchanged("ifAtOnce(12, " + what + ")", x -> x.ifAtOnce(12, told), due);
        }
        unchanged("couldStart()", Used::couldStart, maker.get().couldStart());
        unchanged("bestAtOnce()", Used::bestAtOnce, maker.get().bestAtOnce());
        unchanged("answeredIn(3)", x -> x.answeredIn(3), maker.get().answeredIn(3));
        unchanged("readOf(3, 2)", x -> x.readOf(3, 2), maker.get().readOf(3, 2));
        unchanged("disk(7, 2)", x -> x.disk(7, 2), maker.get().disk(7, 2));
    }

    private static Used with30Reads() {
        Used x = Drawers.broken(0);
        x.keep();
        for (int read = 0; read < 30; read++) {
            x.read(1 + read % 5, 50);
        }
        x.run(9);
        return x;
    }

    private static void fullOfReads() {
        in("a drawer with 30 reads", ErrorsEdgesTest::with30Reads);
        unchanged("read(1, 1)", x -> x.read(1, 1), -3);
        unchanged("read(0, 1)", x -> x.read(0, 1), -4);
        unchanged("drop(31)", x -> x.drop(31), -1);
        in("a drawer in which 500 reads were asked for", () -> Drawers.answered(500));
        unchanged("read(1, 1)", x -> x.read(1, 1), -3);
        unchanged("perform()", Used::perform, -4);
        unchanged("drop(499)", x -> x.drop(499), -1);
        unchanged("drop(500)", x -> x.drop(500), -1);
    }

    private static Used with80Characters() {
        Used x = new Used();
        x.keep();
        x.run(5);
        Check.write(x, "run 10;run 10;run 10;run 10;run 10;run 10;run 10;run 10;run 10;run 10;read 11 50");
        return x;
    }

    private static void fullOfText() {
        in("a drawer with 80 characters", ErrorsEdgesTest::with80Characters);
        for (char character : new char[] {0, ';', '0', 'x', 255}) {
            unchanged("type of " + (int) character, x -> x.type(character), -3);
        }
        unchanged("type twice", x -> x.type('a') + x.type('b'), -6);
    }

    private static void fullOfTicks() {
        in("a drawer behind 99999 ticks", () -> Drawers.behind(99999));
        unchanged("run(1)", x -> x.run(1), -3);
        unchanged("run(200)", x -> x.run(200), -3);
        unchanged("run(201)", x -> x.run(201), -2);
        unchanged("perform()", Used::perform, -4);
    }

    private static void orderOfChecks() {
        CHECK.sentence("Where several errors can apply, the order of the @return line is the order of the checks.");
        Used x = rich();
        CHECK.due("set: UNKNOWN, BAD_VALUE", x.set(10, -1), -1);
        CHECK.due("read: UNKNOWN, BAD_VALUE", x.read(12, 0), -1);
        CHECK.due("read: BAD_VALUE, NOT_POSSIBLE", x.read(0, 0), -2);
        CHECK.due("disk: UNKNOWN, BAD_VALUE", x.disk(12, 8), -1);
        CHECK.due("readOf: UNKNOWN, BAD_VALUE", x.readOf(0, 5), -1);
        CHECK.due("perform: the fault, NOT_POSSIBLE", Check.performed(x, "read 0 1;y"), -109);
        Used y = with30Reads();
        CHECK.due("read: NOT_POSSIBLE, FULL", y.read(0, 1), -4);
        CHECK.due("read: BAD_VALUE, NOT_POSSIBLE, FULL", y.read(0, 51), -2);
        CHECK.due("read: UNKNOWN, FULL", y.read(-1, 1), -1);
        Used z = Drawers.behind(99999);
        CHECK.due("run: BAD_VALUE, FULL", z.run(201), -2);
    }

    private static void noneOnlyWithoutAnError() {
        CHECK.sentence("NONE is no error; it is returned only if no error applies.");
        Used x = richAndBlown();
        CHECK.due("set: so already", x.set(5, 10), -5);
        CHECK.due("set: UNKNOWN ahead of it", x.set(-1, 10), -1);
        CHECK.due("fail: planned already", x.fail(7), -5);
        CHECK.due("fail: UNKNOWN ahead of it", x.fail(12), -1);
        CHECK.due("fail: NOT_POSSIBLE ahead of it", x.fail(0), -4);
        CHECK.due("answeredIn: not any more", x.answeredIn(1), -5);
        CHECK.due("answeredIn: UNKNOWN ahead of it", x.answeredIn(0), -1);
        CHECK.due("ifAtOnce: never", x.ifAtOnce(12, 0), -5);
        CHECK.due("ifAtOnce: BAD_VALUE ahead of it", x.ifAtOnce(13, 0), -2);
    }
}
