/** Objects in a state, and numbers that are not as told. */
final class Scenes {
    private static final int MIN = Integer.MIN_VALUE, MAX = Integer.MAX_VALUE;

    /** None of everything: as the object is made. */
    static final Edges.Scene NEW = x -> { };

    /** Some of everything: NOW is 2, boats 0, 1 and 3 are there, boat 2 is gone, the law is text 1. */
    static final Edges.Scene BUSY = Scenes::busy;

    /** The same, full: six boats, six texts, 160 bytes on the tape, 9999 trials of form 4 in bed 3, NOW 11. */
    static final Edges.Scene FULL = Scenes::full;

    // of BUSY
    static final int GONE = 2;
    static final int[] NO_BOATS = {-1, 4, 5, 6, MIN, MAX};
    static final int[] NO_NIGHTS = {-1, 11, 12, 13, MIN, MAX};

    static final int[] NO_CELLS = {-1, 100, 101, MIN, MAX};
    static final int[] NO_HOURS = {-1, 12, 13, MIN, MAX};
    static final int[] NO_SHEETS = {-1, 4, 5, MIN, MAX};
    /** Rows and numbers in each, of which one isn't 1 .. 9. */
    static final int[] NO_SHAPES = {0, 1, 9, 10, 20, 90, 100, 101, 109, 110, 111, 199, -1, -9, -10, -11, -99, MIN, MAX};

    private Scenes() {
    }

    static int[] beyond(int least, int most) {
        return new int[] {least - 1, most + 1, MIN, MAX};
    }

    static void feed(AnchorThatDrags x, String text) {
        for (int k = 0; k < text.length(); k += 5) {
            int[] five = new int[5];
            for (int j = 0; j < 5 && k + j < text.length(); j++) {
                five[j] = text.charAt(k + j);
            }
            x.feed(Math.min(5, text.length() - k), five[0], five[1], five[2], five[3], five[4]);
        }
    }

    static int text(AnchorThatDrags x, String text) {
        feed(x, text);
        return x.text();
    }

    /** A new object whose law is the text. */
    static AnchorThatDrags under(String text) {
        AnchorThatDrags x = new AnchorThatDrags();
        x.force(text(x, text));
        return x;
    }

    static void fill(AnchorThatDrags x, int s, int sort, int... numbers) {
        x.sheet(s, sort, numbers.length);
        for (int k = 0; k < numbers.length; k++) {
            x.cell(s, k, numbers[k]);
        }
    }

    /** Boat 0 of no area lies still in 44, boat 1 too, sheet 0 is one of one number; it is the hour told. */
    static Edges.Scene at(int now) {
        return AT[now];
    }

    // made once, so that what is asked of a scene can be kept by it
    private static final Edges.Scene[] AT = new Edges.Scene[12];

    static {
        for (int now = 0; now < 12; now++) {
            int then = now;
            AT[now] = x -> {
                x.boat(0, 0, 44, 5);
                x.boat(0, 0, 46, 5);
                x.sheet(0, 2, 1);
                x.goOn(then);
            };
        }
    }

    private static void busy(AnchorThatDrags x) {
        x.chart(70, 23, 0, 9);
        x.sound(12, 1, 3);
        x.blow(4, 0, 5);
        x.blow(5, 1, 77);
        x.blow(6, 2, -2);
        x.boat(1, 325, 44, 15);
        x.boat(4, 212, 55, 20);
        x.boat(0, 900, 95, 5);
        x.trial(2, 1, 3, 9);
        x.image();
        x.goOn(2);
        x.boat(2, 101, 7, 9);
        x.force(text(x, "pull wind*area;hold 61;jerk 3;"));
        feed(x, "pull 1;hold 2;jerk ");
        x.trial(0, 0, 1, 2);
        fill(x, 0, 0, 5, 6, 7);
        fill(x, 1, 1, 8, 9);
        fill(x, 2, 2, 10, 11, 12, 13);
    }

    private static void full(AnchorThatDrags x) {
        for (int i = 0; i < 6; i++) {
            x.boat(i, 5, 11 * i, 15);
        }
        for (int t = 1; t < 6; t++) {
            text(x, "pull " + t + ";hold 2;jerk 3;");
        }
        for (int k = 0; k < 32; k++) {
            x.feed(5, 32, 32, 10, 'p', 255);
        }
        for (int k = 0; k < 101; k++) {
            x.trial(4, 3, 50, 99);
        }
        x.goOn(11);
        x.force(5);
    }
}
