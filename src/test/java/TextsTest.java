/** Promises 9, 10 and 11: type, clearText, perform. */
public final class TextsTest {
    private static final Check CHECK = new Check("TextsTest");

    public static void main(String[] args) {
        typing();
        faultsOfWords();
        faultsOfNumbers();
        faultsBetweenCommands();
        longTexts();
        performs();
        allOrNone();
        noneDoesNothing();
        CHECK.end();
    }

    private static void typing() {
        Used x = new Used();
        for (int length = 1; length <= 80; length++) {
            CHECK.due("type", x.type((char) (length * 800)), length);
            CHECK.due("length", x.count(18), length);
        }
        CHECK.due("the 81st", x.type('r'), -3);
        CHECK.due("the length stays", x.count(18), 80);
        CHECK.due("it is no act", x.count(17), 0);
        CHECK.due("clearText()", x.clearText(), 80);
        CHECK.due("clearText() again", x.clearText(), 0);
        CHECK.due("length", x.count(18), 0);
        CHECK.due("type", x.type((char) 0), 1);
        CHECK.due("its fault", x.perform(), -100);
        x.read(0, 1);
        x.keep();
        x.type('a');
        x.restore();
        x.undo();
        x.undo();
        CHECK.due("the text is not undone", x.count(18), 2);
    }

    private static void fault(String text, int due) {
        Used x = new Used();
        String before = Check.state(x);
        CHECK.due("perform of \"" + text + "\"", Check.performed(x, text), -100 - due);
        CHECK.same("the state behind \"" + text + "\"", Check.state(x), before);
        CHECK.due("states behind \"" + text + "\"", x.count(17), 0);
        CHECK.due("length of \"" + text + "\"", x.count(18), text.length());
    }

    private static void good(String text, int commands) {
        Used x = new Used();
        CHECK.due("perform of \"" + text + "\"", Check.performed(x, text), commands);
        CHECK.due("states behind \"" + text + "\"", x.count(17), 1);
        CHECK.due("length of \"" + text + "\"", x.count(18), text.length());
    }

    private static void faultsOfWords() {
        fault("", 0);
        fault(" ", 0);
        fault("x", 0);
        fault("R", 0);
        fault("r", 1);
        fault("re", 2);
        fault("rea", 3);
        fault("read", 4);
        fault("ru", 2);
        fault("run", 3);
        fault("rx", 1);
        fault("rad", 1);
        fault("rex", 2);
        fault("reax", 3);
        fault("readx", 4);
        fault("runs 1", 3);
        fault("f", 1);
        fault("fa", 2);
        fault("fai", 3);
        fault("fail", 4);
        fault("fu", 2);
        fault("fus", 3);
        fault("fr", 1);
        fault("fal", 2);
        fault("fain", 3);
        fault("fuel", 2);
        fault("fusa", 3);
        fault("fuser", 4);
        fault("fuse ", 4);
        fault("fuse 1", 4);
        fault("\u0172ead", 0);
        good("fuse", 1);
    }

    private static void faultsOfNumbers() {
        fault("read ", 5);
        fault("read  0 1", 5);
        fault("read x", 5);
        fault("read -1 1", 5);
        fault("read 00 1", 6);
        fault("read 01 1", 6);
        fault("read 12 1", 6);
        fault("read 20 1", 6);
        fault("read 110 1", 7);
        fault("read 0", 6);
        fault("read 0;", 6);
        fault("read 1", 6);
        fault("read 11", 7);
        fault("read 11 ", 8);
        fault("read 0 0", 7);
        fault("read 0 51", 8);
        fault("read 0 60", 8);
        fault("read 0 500", 9);
        fault("read 0 5x", 8);
        fault("read 0 5 ", 8);
        fault("read 0 5 1", 8);
        fault("fail ", 5);
        fault("fail 12", 6);
        fault("fail 00", 6);
        fault("fail 1x", 6);
        fault("fail 1 ", 6);
        fault("run ", 4);
        fault("run 0", 4);
        fault("run 201", 6);
        fault("run 210", 6);
        fault("run 300", 6);
        fault("run 2000", 7);
        fault("run 1000", 7);
        fault("run 5 ", 5);
        fault("run 5 0", 5);
        fault("run /", 4);
        fault("run :", 4);
        fault("run \u0661", 4);
        good("run 1", 1);
        good("run 9", 1);
        good("run 20", 1);
        good("run 99", 1);
        good("run 199", 1);
        good("run 200", 1);
        good("fail 0", 1);
        good("fail 10", 1);
        good("fail 11", 1);
        good("fail 9", 1);
        good("read 0 1", 1);
        good("read 11 50", 1);
        good("read 10 49", 1);
        good("read 9 9", 1);
    }

    private static void faultsBetweenCommands() {
        fault(";", 0);
        fault("fuse;", 5);
        fault("fuse;;", 5);
        fault("fuse; fuse", 5);
        fault("fuse ;fuse", 4);
        fault("fusefuse", 4);
        fault("fuse,fuse", 4);
        fault("run 5;re", 8);
        fault("run 5;rex", 8);
        fault("fail 0;fail 012", 13);
        fault("run 5;read 3 50;run 0", 20);
        fault("fail 3;x;y", 7);
        good("fuse;fuse", 2);
        good("run 5;read 3 50;fail 11;fuse", 4);
        good("run 1;run 2;run 3", 3);
    }

    private static void longTexts() {
        good("fuse;fuse;fuse;fuse;fuse;fuse;fuse;fuse;fuse;fuse;fuse;fuse;fuse;fuse;fuse;fuse", 16);
        fault("fuse;fuse;fuse;fuse;fuse;fuse;fuse;fuse;fuse;fuse;fuse;fuse;fuse;fuse;fuse;fuse;", 80);
        fault("fuse;fuse;fuse;fuse;fuse;fuse;fuse;fuse;fuse;fuse;fuse;fuse;fuse;fuse;fuse;fuse ", 79);
        good("run 1;run 1;run 1;run 1;run 1;run 1;run 1;run 1;run 1;run 1;run 1;run 1;run 1", 13);
        fault("run 10;run 10;run 10;run 10;run 10;run 10;run 10;run 10;run 10;run 10;run 10;run", 80);
        good("run 1;run 10;run 10;run 10;run 10;run 10;run 10;run 10;run 10;run 10;run 10;fuse", 12);
        Used x = new Used();
        Check.write(x, "fuse");
        x.perform();
        x.type(';');
        x.type('f');
        CHECK.due("a shorter text behind a longer one", Check.performed(x, "fu"), -102);
    }

    private static void performs() {
        Used x = new Used();
        Used y = new Used();
        Check.write(x, "read 3 5;fail 4;read 4 7;run 9;read 11 50;run 11");
        CHECK.due("perform()", x.perform(), 6);
        y.read(3, 5);
        y.fail(4);
        y.read(4, 7);
        y.run(9);
        y.read(11, 50);
        y.run(11);
        CHECK.same("commands do as calls", Check.state(x), Check.state(y));
        CHECK.due("one act", x.count(17), 1);
        CHECK.due("the text stays", x.count(18), 48);
        CHECK.due("perform() again", x.perform(), 6);
        CHECK.due("reads", x.count(4), 6);
        CHECK.due("undo()", x.undo(), 1);
        CHECK.same("as before", Check.state(x), Check.state(y));
        CHECK.due("undo()", x.undo(), 0);
        CHECK.same("as a new one", Check.state(x), Check.state(new Used()));
        Used z = new Used();
        z.set(5, 10);
        z.set(6, 0);
        z.run(1);
        CHECK.due("blown", z.count(11), 1);
        CHECK.due("a new fuse", Check.performed(z, "fuse"), 1);
        CHECK.due("not blown", z.count(11), 0);
    }

    private static Used reading() {
        Used x = new Used();
        x.set(0, 1);
        x.read(0, 50);
        x.run(5);
        return x;
    }

    private static void allOrNone() {
        String before = Check.state(reading());
        String counts = Check.counts(reading());
        String[] texts = {
            "fail 1;read 1 9;run 2;fail 1;run 2;fail 1;run 2;run 200;fail 1",
            "read 2 1;fail 1;read 1 9;run 2;fail 1;run 2;fail 1;run 2;read 1 1;fuse",
            "fail 1;read 1 9;run 2;fail 1;run 2;fail 1;run 9;fail 2;fail 1;run 3",
        };
        for (String text : texts) {
            Used x = reading();
            CHECK.due("perform of \"" + text + "\"", Check.performed(x, text), -4);
            CHECK.same("nothing is changed", Check.state(x), before);
            x.clearText();
            CHECK.same("nothing is recorded", Check.counts(x), counts);
        }
        Used y = new Used();
        for (int read = 0; read < 28; read++) {
            y.read(0, 50);
        }
        CHECK.due("two more", Check.performed(y, "read 1 1;read 1 2"), 2);
        y.undo();
        CHECK.due("three more", Check.performed(y, "read 1 1;read 1 2;read 1 3"), -4);
        CHECK.due("reads", y.count(3), 28);
        CHECK.due("room is made in between", Check.performed(y, "read 1 1;read 1 2;run 9;read 1 3"), 4);
        Used z = new Used();
        z.set(0, 1);
        Check.performed(z, "fail 1;read 1 9;run 2;fail 1;run 2;fail 1;run 2");
        CHECK.due("a fault of the text is told ahead", Check.performed(z, "read 1 1;read 1 0"), -116);
        CHECK.due("not possible", Check.performed(z, "read 1 1;read 1 1"), -4);
    }

    private static void noneDoesNothing() {
        Used x = new Used();
        CHECK.due("perform()", Check.performed(x, "fuse;fail 2;fail 2;fuse;run 1"), 5);
        CHECK.due("one fault is planned", x.fail(3), 2);
        CHECK.due("one tick passed", x.count(0), 1);
        Used y = new Used();
        CHECK.due("fuse", Check.performed(y, "fuse"), 1);
        CHECK.due("an act even so", y.count(17), 1);
        CHECK.due("undo()", y.undo(), 0);
    }
}
