/** Counts the answers that are not as due; each test has one and ends with it. */
final class Check {
    private int wrong;
    private String sentence = "";

    /** The sentence of the document that the next answers are for. */
    void about(String words) {
        sentence = words;
    }

    private void report(String answer) {
        wrong++;
        System.out.println(sentence.isEmpty() ? answer : "\"" + sentence + "\": " + answer);
    }

    void same(String what, long got, long due) {
        if (got != due) {
            report(what + " answered " + got + ", due is " + due);
        }
    }

    void yes(String what, boolean got) {
        same(what, got ? 1 : 0, 1);
    }

    void no(String what, boolean got) {
        same(what, got ? 1 : 0, 0);
    }

    void fails(String what, Class<? extends RuntimeException> due, Runnable call) {
        Class<?> got = null;
        try {
            call.run();
        } catch (RuntimeException e) {
            got = e.getClass();
        }
        if (got != due) {
            report(what + " threw " + got + ", due is " + due);
        }
    }

    /** The frame of a box as x, y, width and height. */
    void frame(PageLayouter page, int box, int x, int y, int width, int height) {
        same("x of box " + box, page.frame(box, 0), x);
        same("y of box " + box, page.frame(box, 1), y);
        same("width of box " + box, page.frame(box, 2), width);
        same("height of box " + box, page.frame(box, 3), height);
    }

    void end() {
        if (wrong != 0) {
            System.out.println(wrong + " answers are not as due");
            System.exit(1);
        }
    }
}
