/** Promise 21: count. */
public final class CountsTest {
    private static final Check CHECK = new Check("CountsTest");

    public static void main(String[] args) {
        wrongInputs();
        eachCount();
        greatestCurrentSoFar();
        CHECK.end();
    }

    private static void wrongInputs() {
        Used x = new Used();
        for (int what : new int[] {-1, 19, 30, Integer.MIN_VALUE, Integer.MAX_VALUE}) {
            CHECK.due("count(" + what + ")", x.count(what), -2);
        }
    }

    private static void due(Used x, String when, int... due) {
        for (int place = 0; place < due.length; place += 2) {
            CHECK.due(when + ": count(" + due[place] + ")", x.count(due[place]), due[place + 1]);
        }
    }

    private static void eachCount() {
        Used x = new Used();
        x.set(0, 2);
        x.set(9, 2);
        Check.performed(x, "read 0 1;read 1 3;read 2 2;read 3 9;fail 3;fail 0");
        due(x, "asked", 0, 0, 1, 12, 2, 0, 3, 4, 4, 4, 7, 12, 14, 0, 17, 3, 18, 49);
        x.run(1);
        due(x, "three start", 0, 1, 1, 69, 2, 69, 7, 9, 8, 3, 9, 0, 14, 3, 15, 0);
        x.run(2);
        due(x, "one failed", 0, 3, 1, 8 + 20 + 10 + 10 + 1, 2, 69, 5, 0, 7, 9, 8, 1, 9, 2, 14, 4, 15, 1, 16, 0);
        x.run(1);
        due(x, "it is tried", 0, 4, 3, 3, 5, 1, 7, 8, 8, 2, 9, 2, 14, 5, 16, 4);
        x.run(1);
        due(x, "the second is answered", 1, 8 + 20 + 6 + 6 + 1, 3, 2, 5, 2, 8, 1, 9, 2, 15, 2, 16, 9);
        x.run(1);
        due(x, "one rests", 3, 1, 5, 3, 7, 9, 8, 1, 9, 2, 14, 6, 16, 15);
        Check.performed(x, "fail 3;run 2;fail 3;run 3");
        due(x, "one is broken", 3, 0, 4, 4, 5, 3, 6, 1, 7, 11, 8, 0, 9, 0, 10, 1, 1, 11, 15, 4, 14, 7);
    }

    private static void greatestCurrentSoFar() {
        Used x = new Used();
        x.set(4, 5);
        due(x, "no tick", 1, 60, 2, 0);
        x.run(1);
        due(x, "a tick", 1, 60, 2, 60);
        x.set(4, 0);
        due(x, "less", 1, 0, 2, 60);
        x.run(1);
        due(x, "a tick with less", 1, 0, 2, 60);
        x.undo();
        x.undo();
        x.undo();
        due(x, "undone", 1, 60, 2, 0);
    }
}
