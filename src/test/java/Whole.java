import java.util.Arrays;

/** All that can be asked of an object in a scene; as asking takes calls, and changes things, each part is asked of one of its own. */
final class Whole {
    private static final String[] PARTS = {"the bay", "counts, boats, trials", "texts", "the tape", "the image", "sheet 0",
        "sheet 1", "sheet 2", "sheet 3"};

    private final long[][] parts = new long[PARTS.length][];
    private final Edges.Scene scene;
    private long[] row = new long[512];
    private int size = 0;

    Whole(Edges.Scene scene) {
        this.scene = scene;
        bay(fresh());
        end(0);
        countsAndBoats(fresh());
        end(1);
        texts(fresh());
        end(2);
        tape(fresh());
        end(3);
        image(fresh());
        end(4);
        for (int s = 0; s < 4; s++) {
            sheet(s);
            end(5 + s);
        }
    }

    /** What of it the other has otherwise; null: nothing. */
    String otherwise(Whole other) {
        for (int p = 0; p < parts.length; p++) {
            int at = Arrays.mismatch(parts[p], other.parts[p]);
            if (at >= 0) {
                return PARTS[p] + ", answer " + at + " of " + parts[p].length;
            }
        }
        return null;
    }

    private AnchorThatDrags fresh() {
        AnchorThatDrags x = new AnchorThatDrags();
        scene.on(x);
        return x;
    }

    private void add(long v) {
        if (size == row.length) {
            row = Arrays.copyOf(row, 2 * size);
        }
        row[size] = v;
        size++;
    }

    private void end(int part) {
        parts[part] = Arrays.copyOf(row, size);
        size = 0;
    }

    private void bay(AnchorThatDrags x) {
        for (int c = 0; c < 100; c++) {
            add(x.told(c, 0));
            add(x.told(c, 1));
        }
        for (int h = 0; h < 12; h++) {
            add(x.told(h, 2));
            add(x.told(h, 3));
            add(x.told(h, 4));
        }
    }

    private void countsAndBoats(AnchorThatDrags x) {
        for (int what = 0; what < 5; what++) {
            add(x.count(what));
        }
        for (int i = 0; i < 6; i++) {
            for (int what = 0; what < 6; what++) {
                add(x.boatTold(i, what));
            }
        }
        for (int form = 0; form < 5; form++) {
            for (int ground = 0; ground < 4; ground++) {
                add(x.rate(form, ground, 0));
                add(x.rate(form, ground, 1));
            }
        }
    }

    private void says(AnchorThatDrags x) {
        for (int part = 0; part < 3; part++) {
            add(x.asks(part, 2003, 515, 4));
            add(x.asks(part, 9909, 140, 39));
            add(x.asks(part, 1, 3001, 15));
            add(x.asks(part, 5077, 1212, 23));
        }
    }

    private void texts(AnchorThatDrags x) {
        says(x);
        for (int t = 0; t < 6; t++) {
            add(x.force(t));
            says(x);
        }
    }

    /** A tape that only lacks the end of its last part becomes a text by this, and says what was on it. */
    private void tape(AnchorThatDrags x) {
        add(x.feed(2, '3', ';', 0, 0, 0));
        int t = x.text();
        add(t);
        add(x.count(4));
        add(x.force(t));
        says(x);
    }

    private void image(AnchorThatDrags x) {
        add(x.back());
        countsAndBoats(x);
        says(x);
    }

    private void sheet(int s) {
        int other = (s + 1) % 4;
        AnchorThatDrags x = fresh();
        int length = 0;
        for (int k = 0; k <= 40; k++) {
            int end = x.copy(s, k, s, k, 0);
            add(end);
            length = end == 0 ? k : length;
        }
        int sort = -1;
        for (int as = 0; as < 3; as++) {
            x.sheet(other, as, 0);
            int like = x.copy(s, 0, other, 0, 0);
            add(like);
            sort = like == 0 ? as : sort;
        }
        for (int k = 0; k < length; k++) {
            number(s, k, other, sort);
        }
    }

    /** By six boats at a time, which lie still in the number's cell or don't. */
    private void number(int s, int k, int other, int sort) {
        AnchorThatDrags x = fresh();
        x.sheet(other, sort, 1);
        x.copy(s, k, other, 0, 1);
        int now = x.count(0);
        x.force(0);
        x.blow(now, 1, 0);
        x.blow(now, 0, now == 0 ? 0 : x.told(now - 1, 2));
        for (int i = x.count(1); i < 6; i++) {
            x.boat(0, 0, 0, 1);
        }
        for (int i = 0; i < 6; i++) {
            x.let(i, 1, 1);
        }
        for (int c = 0; c < 100; c += 6) {
            for (int i = 0; i < 6; i++) {
                x.let(i, 0, Math.min(99, c + i));
            }
            add(x.which(other));
        }
    }
}
