/** Edges of TEXTS and of promises 9, 10 and 11. */
public final class TextsEdgesTest {
    private static final Check CHECK = new Check("TextsEdgesTest");

    public static void main(String[] args) {
        eightyCharacters();
        anyCharacter();
        emptyText();
        emptied();
        numberOfCommands();
        betweenCommands();
        wordsWithAFault();
        disks();
        ticksOfReads();
        ticksOfRuns();
        zerosInFront();
        endsTooEarly();
        greatestFault();
        oneCharacterElse();
        theTextStays();
        oneAct();
        noneDoesNothing();
        faultAheadOfNotPossible();
        anyCommandWithAnError();
        fullOfReads();
        fullOfTicks();
        errorsThatAreNoneAlone();
        CHECK.end();
    }

    private static int performed(String text) {
        return Check.performed(new Used(), text);
    }

    private static void fault(String text, int due) {
        CHECK.due("\"" + text + "\"", performed(text), -100 - due);
    }

    private static void good(String text, int commands) {
        CHECK.due("\"" + text + "\"", performed(text), commands);
    }

    private static void eightyCharacters() {
        CHECK.sentence("There is a text of at most 80 characters, empty at first.");
        Used x = new Used();
        CHECK.due("at first", x.count(18), 0);
        String text = "run 10;run 10;run 10;run 10;run 10;run 10;run 10;run 10;run 10;run 10;read 11 50";
        for (int length = 1; length <= 80; length++) {
            CHECK.due("type", x.type(text.charAt(length - 1)), length);
        }
        CHECK.sentence("Returns the length of the text then; FULL if it has 80 characters.");
        CHECK.due("the 81st", x.type('0'), -3);
        CHECK.due("the length", x.count(18), 80);
        CHECK.due("the text of 80 is as it was", x.perform(), 11);
        CHECK.due("again the 81st", x.type(';'), -3);
        CHECK.due("clearText()", x.clearText(), 80);
        CHECK.due("room again", x.type('f'), 1);
        Used y = new Used();
        Check.write(y, text.substring(0, 79));
        CHECK.due("of 79: 5 ticks", y.perform(), 11);
        CHECK.due("its ticks", y.readOf(0, 1), 5);
        CHECK.due("the 80th", y.type('1'), 80);
        CHECK.due("a digit too many", y.perform(), -100 - 79);
    }

    private static void anyCharacter() {
        CHECK.sentence("Types a character behind the text.");
        CHECK.sentence("`character`: any character");
        Used x = new Used();
        char[] characters = {0, 1, '\n', 127, 128, 255, 256, Character.MAX_VALUE};
        for (char character : characters) {
            CHECK.due("type of " + (int) character, x.type(character), 1);
            CHECK.due("its fault", x.perform(), -100);
            x.clearText();
        }
        for (char character : characters) {
            Check.write(x, "run 5");
            x.type(character);
            CHECK.due("fault of " + (int) character + " behind a command", x.perform(), -105);
        }
        for (int above = 256; above < 65536; above += 256 * 37) {
            Check.write(x, "run ");
            x.type((char) (above + '5'));
            CHECK.due("fault of " + (above + '5') + " in the place of 5", x.perform(), -104);
        }
    }

    private static void emptyText() {
        CHECK.sentence("or the length of the text if it ends too early (the empty text does).");
        CHECK.due("a new one", new Used().perform(), -100);
        Used x = new Used();
        Check.write(x, "fuse");
        x.clearText();
        CHECK.due("an emptied one", x.perform(), -100);
    }

    private static void emptied() {
        CHECK.sentence("Empties the text.");
        CHECK.sentence("Returns the length that it had.");
        Used x = new Used();
        CHECK.due("of none", x.clearText(), 0);
        x.type('a');
        CHECK.due("of one", x.clearText(), 1);
        CHECK.due("it is empty", x.count(18), 0);
        CHECK.due("of none again", x.clearText(), 0);
        Check.write(x, "run 5;run 6");
        x.clearText();
        x.type('r');
        CHECK.due("nothing of the old one is behind the new one", x.perform(), -101);
        CHECK.due("no act", x.count(17), 0);
        String[] longer = {"run 111", "run 20;fuse", "read 0 11", "read 11 1", "fail 11", "fuse;fuse", "run 5;run 5"};
        String[] shorter = {"run 1", "run 20;", "read 0 1", "read 1", "fail 1", "fuse", "run"};
        int[] due = {1, -107, 1, -106, 1, 1, -103};
        for (int place = 0; place < due.length; place++) {
            Check.write(x, longer[place]);
            CHECK.due("\"" + shorter[place] + "\" behind \"" + longer[place] + "\"",
                Check.performed(x, shorter[place]), due[place]);
        }
        CHECK.due("only the digits of the new one count", x.count(0), 1);
        CHECK.due("of a read, too", x.readOf(0, 1), 1);
        CHECK.due("and of a disk", x.disk(1, 6) - x.disk(11, 6), 1);
    }

    private static String times(String text, int times) {
        return text.repeat(times).substring(0, text.length() * times - 1);
    }

    private static void numberOfCommands() {
        CHECK.sentence("A program is one or more commands with \";\" between two");
        for (int commands = 1; commands <= 16; commands++) {
            good(times("fuse;", commands), commands);
        }
        fault(times("fuse;", 16) + ";", 80);
        for (int commands = 1; commands <= 13; commands++) {
            good(times("run 1;", commands), commands);
        }
        fault("", 0);
    }

    private static void betweenCommands() {
        CHECK.sentence("A program is one or more commands with \";\" between two");
        fault(";fuse", 0);
        fault("fuse;", 5);
        fault("fuse;;fuse", 5);
        fault("fuse fuse", 4);
        fault("fusefuse", 4);
        fault("fuse:fuse", 4);
        fault("fuse;fuse;", 10);
        fault("run 20;", 7);
        fault("run 20;;", 7);
        good("fuse;fuse", 2);
        good("run 20;fuse", 2);
    }

    private static void wordsWithAFault() {
        CHECK.sentence("The fault of the text is the index, from 0, of the first character that is not allowed at its "
            + "place (of a word: with which no word begins so)");
        String[] words = {"read", "run", "fail", "fuse"};
        for (String word : words) {
            for (int place = 0; place < word.length(); place++) {
                for (char other = 'a'; other <= 'z'; other++) {
                    String begin = word.substring(0, place) + other;
                    boolean aWordBeginsSo = false;
                    for (String each : words) {
                        aWordBeginsSo |= each.startsWith(begin);
                    }
                    if (!aWordBeginsSo) {
                        fault(begin + word.substring(place + 1), place);
                        fault("fuse;" + begin, 5 + place);
                    } else {
                        fault(begin.equals("fuse") ? begin + "?" : begin, begin.length());
                    }
                }
            }
        }
        fault("reed 1 1", 2);
        fault("ruad 1", 2);
        fault("fuil 1", 2);
        fault("fase", 2);
        fault("RUN 1", 0);
        fault("runn 1", 3);
        fault("fuse1", 4);
    }

    /** Every number of up to four digits: the first digit with which it leaves its range is the fault. */
    private static void numbers(String before, int lowest, int highest, String after, int commands) {
        for (int number = 0; number <= 2100; number++) {
            String digits = String.valueOf(number);
            int place = 0;
            while (place < digits.length() && allowed(digits.substring(0, place + 1), lowest, highest)) {
                place++;
            }
            String text = before + digits + after;
            if (place < digits.length()) {
                fault(text, before.length() + place);
            } else {
                good(text, commands);
            }
        }
    }

    private static boolean allowed(String digits, int lowest, int highest) {
        return Integer.parseInt(digits) <= highest && (lowest == 0 || digits.charAt(0) != '0')
            && (digits.length() == 1 || digits.charAt(0) != '0');
    }

    private static void disks() {
        CHECK.sentence("\"read\", a blank, a disk (0 to 11), a blank, and ticks (1 to 50); "
            + "\"fail\", a blank, and a disk");
        numbers("fail ", 0, 11, "", 1);
        numbers("read ", 0, 11, " 5", 1);
        fault("read -1 5", 5);
        fault("fail -1", 5);
        fault("fail  1", 5);
        fault("fail\t1", 4);
        fault("fail1", 4);
        fault("read1 5", 4);
        fault("read 1  5", 7);
        fault("read 1;5", 6);
        Used x = new Used();
        CHECK.due("perform()", Check.performed(x, "read 0 5;read 11 6;fail 0;fail 11;read 10 7"), 5);
        CHECK.due("disk of 0", x.readOf(0, 0), 0);
        CHECK.due("disk of 1", x.readOf(1, 0), 11);
        CHECK.due("disk of 2", x.readOf(2, 0), 10);
        CHECK.due("faults planned", x.disk(0, 6) + x.disk(11, 6), 2);
    }

    private static void ticksOfReads() {
        CHECK.sentence("a digit by which a number would be greater than its range is not allowed.");
        numbers("read 11 ", 1, 50, "", 1);
        numbers("read 0 ", 1, 50, ";fuse", 2);
        Used x = new Used();
        CHECK.due("perform()", Check.performed(x, "read 0 1;read 0 49;read 0 50"), 3);
        CHECK.due("ticks of 0", x.readOf(0, 1), 1);
        CHECK.due("ticks of 1", x.readOf(1, 1), 49);
        CHECK.due("ticks of 2", x.readOf(2, 1), 50);
    }

    private static void ticksOfRuns() {
        CHECK.sentence("\"run\", a blank, and ticks (1 to 200)");
        numbers("run ", 1, 200, "", 1);
        numbers("run ", 1, 200, ";run 200", 2);
        Used x = new Used();
        CHECK.due("perform()", Check.performed(x, "run 200;run 199;run 1"), 3);
        CHECK.due("ticks", x.count(0), 400);
    }

    private static void zerosInFront() {
        CHECK.sentence("Numbers have no zero in front unless they are the single digit 0, and one whose range begins "
            + "at 1 does not begin with 0");
        good("fail 0", 1);
        fault("fail 00", 6);
        fault("fail 01", 6);
        fault("fail 011", 6);
        good("read 0 1", 1);
        fault("read 00 1", 6);
        fault("read 05 1", 6);
        fault("read 0 0", 7);
        fault("read 0 01", 7);
        fault("read 0 050", 7);
        fault("run 0", 4);
        fault("run 01", 4);
        fault("run 0200", 4);
        good("run 10", 1);
        good("run 100", 1);
        good("fail 10", 1);
    }

    private static void endsTooEarly() {
        CHECK.sentence("or the length of the text if it ends too early");
        String text = "read 11 50;fail 10;run 200;fuse";
        // How many commands each beginning has: a number that could have more digits may end as well.
        int[][] whole = {{9, 1}, {10, 1}, {17, 2}, {18, 2}, {24, 3}, {25, 3}, {26, 3}, {31, 4}};
        for (int length = 0; length <= text.length(); length++) {
            int commands = 0;
            for (int[] each : whole) {
                commands = each[0] == length ? each[1] : commands;
            }
            if (commands > 0) {
                good(text.substring(0, length), commands);
            } else {
                fault(text.substring(0, length), length);
            }
        }
    }

    private static void greatestFault() {
        CHECK.sentence("-100 minus the fault of the text if it has one (which is an error)");
        fault(times("run 10;", 11) + ";ru", 79);
        fault(times("run 10;", 11) + ";run", 80);
        fault(times("run 10;", 11) + ";fus", 80);
        fault(times("run 10;", 11) + ";fux", 79);
        fault(times("fuse;", 16) + "x", 79);
        fault("x" + "y".repeat(79), 0);
        Used x = new Used();
        x.keep();
        Check.performed(x, "rux");
        CHECK.due("an error is not recorded", x.count(17), 0);
    }

    /** A character in the place of another, one too many, and one too few, at every place: as in the plain model. */
    private static void oneCharacterElse() {
        CHECK.sentence("The fault of the text is the index, from 0, of the first character that is not allowed "
            + "at its place");
        String characters = " ;0123456789adefilnrsuxRF\n\u00e9";
        for (String text : new String[] {"read 10 45;run 150", "fail 11;fuse;read 0 5"}) {
            for (int place = 0; place <= text.length(); place++) {
                String begin = text.substring(0, place);
                String end = text.substring(Math.min(text.length(), place + 1));
                asInTheModel(begin + end);
                for (int other = 0; other < characters.length(); other++) {
                    asInTheModel(begin + characters.charAt(other) + end);
                    asInTheModel(begin + characters.charAt(other) + text.substring(place));
                }
            }
        }
    }

    private static void asInTheModel(String text) {
        PlainDrawer model = new PlainDrawer();
        for (int place = 0; place < text.length(); place++) {
            model.type(text.charAt(place));
        }
        CHECK.due("\"" + text + "\"", performed(text), model.perform());
    }

    private static void theTextStays() {
        CHECK.sentence("Does the commands of the text, which stays, one after the other; all of them, or none.");
        Used x = new Used();
        Check.write(x, "read 0 1;run 7");
        CHECK.due("perform()", x.perform(), 2);
        CHECK.due("one after the other", x.count(5), 1);
        CHECK.due("length", x.count(18), 14);
        CHECK.due("perform() again", x.perform(), 2);
        CHECK.due("ticks", x.count(0), 14);
        x.undo();
        CHECK.due("undo() leaves the text", x.count(18), 14);
        x.type('x');
        CHECK.due("perform() with a fault", x.perform(), -114);
        CHECK.due("length", x.count(18), 15);
        Used y = Drawers.broken(3);
        Check.write(y, "run 1;fail 3");
        CHECK.due("not possible", y.perform(), -4);
        CHECK.due("length", y.count(18), 12);
        y.replace(3);
        CHECK.due("possible then", y.perform(), 2);
    }

    private static void oneAct() {
        CHECK.sentence("This is one act.");
        Used x = new Used();
        Check.write(x, times("run 1;", 13));
        for (int act = 1; act <= 6; act++) {
            CHECK.due("perform()", x.perform(), 13);
            CHECK.due("states", x.count(17), Math.min(4, act));
        }
        for (int left = 3; left >= 0; left--) {
            CHECK.due("undo()", x.undo(), left);
            CHECK.due("all its commands are undone", x.count(0), 13 * (2 + left));
        }
    }

    private static void noneDoesNothing() {
        CHECK.sentence("What would return NONE does nothing.");
        Used x = new Used();
        CHECK.due("a fuse that is not blown", Check.performed(x, "fuse"), 1);
        CHECK.due("this is an act", x.count(17), 1);
        CHECK.due("a fault that is planned already", Check.performed(x, "fail 3;fail 3;run 1;fail 3"), 4);
        CHECK.due("planned", x.fail(4), 2);
        CHECK.sentence("\"fuse\" (a new one).");
        Used y = new Used();
        y.set(5, 10);
        y.set(6, 0);
        CHECK.due("a fuse that blows in between", Check.performed(y, "fuse;run 1;fuse;fuse;run 1;run 1"), 6);
        CHECK.due("put in anew once", y.count(13), 2);
        CHECK.due("blown again", y.count(11), 1);
    }

    private static void faultAheadOfNotPossible() {
        CHECK.sentence("Returns how many commands there are; -100 minus the fault of the text if it has one (which is "
            + "an error); NOT_POSSIBLE if any command would return an error.");
        Used x = Drawers.broken(3);
        CHECK.due("not possible", Check.performed(x, "fail 3"), -4);
        CHECK.due("not possible, and a fault behind it", Check.performed(x, "fail 3;"), -107);
        CHECK.due("a fault ahead of it", Check.performed(x, "fuse,fail 3"), -104);
    }

    private static void anyCommandWithAnError() {
        CHECK.sentence("NOT_POSSIBLE if any command would return an error.");
        String before = Check.state(Drawers.broken(3));
        for (String text : new String[] {
            "fail 3", "read 3 1", "fail 3;run 9", "read 3 1;read 4 1", "run 9;fail 3;run 9", "read 4 1;run 9;read 3 1",
            "fail 4;fuse;read 4 9;run 20;fail 3",
        }) {
            Used x = Drawers.broken(3);
            int states = x.count(17);
            CHECK.due("\"" + text + "\"", Check.performed(x, text), -4);
            CHECK.same("the state behind \"" + text + "\"", Check.state(x), before);
            CHECK.due("states behind \"" + text + "\"", x.count(17), states);
        }
        Used y = Drawers.failedTwice(3);
        CHECK.due("possible before it breaks", Check.performed(y, "fail 3;read 3 1;run 2"), 3);
        CHECK.due("it is broken", y.disk(3, 0), 3);
        y.undo();
        CHECK.due("not behind it", Check.performed(y, "fail 3;run 2;read 3 1"), -4);
        CHECK.due("it is not broken then", y.disk(3, 0), 0);
        CHECK.due("and its fault is not planned", y.disk(3, 6), 0);
    }

    private static void fullOfReads() {
        CHECK.sentence("NOT_POSSIBLE if any command would return an error.");
        Used x = new Used();
        for (int read = 0; read < 28; read++) {
            x.read(0, 50);
        }
        CHECK.due("to 30", Check.performed(x, "read 1 1;read 2 1"), 2);
        CHECK.due("waiting", x.count(3), 30);
        CHECK.due("beyond 30", Check.performed(x, "read 1 1"), -4);
        x.undo();
        CHECK.due("beyond 30, the third", Check.performed(x, "read 1 1;read 2 1;read 3 1"), -4);
        CHECK.due("waiting", x.count(3), 28);
        CHECK.due("so far", x.count(4), 28);
        CHECK.due("as one is answered in between", Check.performed(x, "read 1 1;read 2 1;run 7;read 3 1"), 4);
        Used y = Drawers.answered(498);
        CHECK.due("to 500", Check.performed(y, "read 1 1;run 1;read 2 1;run 1"), 4);
        CHECK.due("beyond 500", Check.performed(y, "read 1 1"), -4);
        y.undo();
        CHECK.due("beyond 500, the third", Check.performed(y, "read 1 1;read 2 1;run 1;read 3 1"), -4);
        CHECK.due("so far", y.count(4), 498);
    }

    private static void fullOfTicks() {
        CHECK.sentence("NOT_POSSIBLE if any command would return an error.");
        Used x = Drawers.behind(99700);
        CHECK.due("to 100000", Check.performed(x, "run 200;run 100"), -4);
        CHECK.due("none passed", x.count(0), 99700);
        CHECK.due("to 99999", Check.performed(x, "run 200;run 99"), 2);
        CHECK.due("all passed", x.count(0), 99999);
        CHECK.due("one more", Check.performed(x, "run 1"), -4);
        CHECK.due("without ticks", Check.performed(x, "read 0 1;fuse"), 2);
    }

    private static void errorsThatAreNoneAlone() {
        CHECK.sentence("NONE is no error; it is returned only if no error applies.");
        Used x = Drawers.failedTwice(3);
        CHECK.due("planned twice, then broken, then refused", Check.performed(x, "fail 3;fail 3;run 2;fail 3"), -4);
        CHECK.due("planned twice, then broken", Check.performed(x, "fail 3;fail 3;run 2;fuse"), 4);
    }
}
