/** Counts the answers that are not as due, and ends a test with exit code 1 if there was one. */
final class Check {
    private final String test;
    private String sentence = "";
    private int answers;
    private int wrong;

    Check(String test) {
        this.test = test;
    }

    /** Names the sentence of the document that the next answers are about; SentencesTest looks for it there. */
    void sentence(String words) {
        sentence = words;
    }

    void due(String what, long got, long want) {
        answers++;
        if (got != want) {
            tellWrong(what + " answered " + got + ", due is " + want);
        }
    }

    void holds(String what, boolean holds) {
        due(what, holds ? 1 : 0, 1);
    }

    void same(String what, String got, String want) {
        answers++;
        if (!got.equals(want)) {
            tellWrong(what + ": told is\n" + got + "\ndue is\n" + want);
        }
    }

    private void tellWrong(String what) {
        wrong++;
        System.out.println(test + ": " + what + (sentence.isEmpty() ? "" : "\n    by: " + sentence));
    }

    /** Every count that tells of the state, the text and the history; 30 calls. */
    static String counts(Used drawer) {
        StringBuilder told = new StringBuilder();
        for (int what = 0; what < 30; what++) {
            told.append(drawer.count(what)).append(' ');
        }
        return told.toString();
    }

    /** All that is told of the numbers, the disks and the reads, but nothing of text and history; some 130 calls. */
    static String state(Used drawer) {
        StringBuilder told = new StringBuilder();
        for (int what = 0; what < 30; what++) {
            if (what != 17 && what != 18) {
                told.append(drawer.count(what)).append(' ');
            }
        }
        for (int disk = 0; disk < 12; disk++) {
            for (int what = 0; what < 8; what++) {
                told.append(drawer.disk(disk, what)).append(' ');
            }
        }
        int unseen = drawer.count(3);
        for (int read = drawer.count(4) - 1; read >= 0 && unseen > 0; read--) {
            if (drawer.readOf(read, 0) >= 0) {
                unseen--;
                told.append('\n').append(read);
                for (int what = 0; what < 5; what++) {
                    told.append(' ').append(drawer.readOf(read, what));
                }
            }
        }
        return told.toString();
    }

    /** Puts a text in the place of the one that is there. */
    static void write(Used drawer, String text) {
        drawer.clearText();
        for (int place = 0; place < text.length(); place++) {
            drawer.type(text.charAt(place));
        }
    }

    static int performed(Used drawer, String text) {
        write(drawer, text);
        return drawer.perform();
    }

    void end() {
        System.out.println(test + ": " + answers + " answers, " + wrong + " not as due");
        if (wrong != 0 || answers == 0) {
            System.exit(1);
        }
    }
}
