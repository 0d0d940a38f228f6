/** Compares answers with those that are due, and ends the run with exit code 1 if one was otherwise. */
final class Due {
    private int asked = 0;
    private int wrong = 0;

    void is(String call, long got, long want) {
        asked++;
        if (got != want) {
            wrong++;
            System.out.println(call + " answered " + got + ", due is " + want);
        }
    }

    void end() {
        System.out.println(asked + " answers, " + wrong + " not as due");
        if (wrong != 0 || asked == 0) {
            System.exit(1);
        }
    }

    /** The text comes byte by byte behind what is on the tape. */
    static void feed(AnchorThatDrags x, String text) {
        for (int k = 0; k < text.length(); k++) {
            x.feed(1, text.charAt(k), 0, 0, 0, 0);
        }
    }

    static int text(AnchorThatDrags x, String text) {
        feed(x, text);
        return x.text();
    }

    /** A new object whose law is the text. */
    static AnchorThatDrags under(String text) {
        AnchorThatDrags x = new AnchorThatDrags();
        x.force(text(x, text));
        return x;
    }

    static void fill(AnchorThatDrags x, int s, int sort, int... numbers) {
        x.sheet(s, sort, numbers.length);
        for (int k = 0; k < numbers.length; k++) {
            x.cell(s, k, numbers[k]);
        }
    }
}
