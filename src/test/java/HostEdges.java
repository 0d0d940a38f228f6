/** The terms of sheets, promises 44 to 48. */
final class HostEdges {
    private static final int MIN = Integer.MIN_VALUE, MAX = Integer.MAX_VALUE;

    private HostEdges() {
    }

    static void all(Edges e) {
        terms(e);
        sheet(e);
        cell(e);
        copy(e);
        overlaps(e);
        boatsBy(e);
        placesOfBoats(e);
        taken(e);
        takenRefusals(e);
    }

    private static void terms(Edges e) {
        e.terms("SHEETS 0 .. 3 are rows of numbers, or missing (as all are at first):", t -> {
            AnchorThatDrags x = new AnchorThatDrags();
            for (int s = 0; s < 4; s++) {
                t.is(x.cell(s, 0, 0), -11);
                t.is(x.which(s), -11);
                t.is(x.sheet(s, 0, 1), 1);
                t.is(x.cell(s, 0, 0), 1);
            }
            t.refusedFor(-2, Scenes.NO_SHEETS, (y, s) -> y.cell(s, 0, 0));
        });
        e.terms("of sort 0 bytes, 1 shorts, 2 ints, 40 at most.", t -> {
            for (int sort = 0; sort < 3; sort++) {
                AnchorThatDrags x = new AnchorThatDrags();
                t.is(x.sheet(0, sort, 40), 1);
                t.is(x.cell(0, 39, 7), 1);
                t.is(x.cell(0, 40, 7), -12);
                t.is(x.sheet(0, sort, 41), -2);
                t.is(x.cell(0, 39, 7), 1);
            }
            t.refusedFor(-2, new int[] {-2, 3, 4, MIN, MAX}, (x, sort) -> x.sheet(0, sort, 1));
        });
    }

    /** Whether the row of the sheet, which is of the sort, is that of the numbers, all of them within 0 .. 99: as boats lie there. */
    private static void row(Edges t, AnchorThatDrags x, int s, int sort, int... numbers) {
        int other = (s + 1) % 4;
        x.sheet(other, sort, 1);
        t.is(x.cell(s, numbers.length, 0), -12);
        for (int k = 0; k < numbers.length; k++) {
            t.is(x.copy(s, k, other, 0, 1), 1);
            x.let(0, 0, numbers[k]);
            t.is(x.judge(0, other), -1);
        }
    }

    private static AnchorThatDrags withBoat() {
        AnchorThatDrags x = new AnchorThatDrags();
        x.boat(0, 0, 44, 1);
        return x;
    }

    private static void sheet(Edges e) {
        e.promise(44, "A SHEET becomes a row of n of a sort, all 0, or missing (sort -1: n does not matter): 1.", t -> {
            for (int sort = 0; sort < 3; sort++) {
                AnchorThatDrags x = withBoat();
                t.is(x.sheet(0, sort, 40), 1);
                row(t, x, 0, sort, new int[40]);
                Scenes.fill(x, 3, sort, 9, 8, 7);
                row(t, x, 3, sort, 9, 8, 7);
                t.is(x.sheet(3, sort, 5), 1);
                row(t, x, 3, sort, 0, 0, 0, 0, 0);
                // of none: there, but empty
                t.is(x.sheet(3, sort, 0), 1);
                t.is(x.cell(3, 0, 0), -12);
                t.is(x.copy(3, 0, 3, 0, 0), 0);
                // of another sort
                t.is(x.sheet(3, (sort + 1) % 3, 3), 1);
                row(t, x, 3, (sort + 1) % 3, 0, 0, 0);
            }
            for (int n : new int[] {0, 1, 40, 41, -1, -5, MIN, MAX}) {
                AnchorThatDrags x = new AnchorThatDrags();
                Scenes.fill(x, 2, 2, 1, 2, 3);
                t.is(x.sheet(2, -1, n), 1);
                t.is(x.cell(2, 0, 0), -11);
                // of one that is missing already
                t.is(x.sheet(2, -1, n), 1);
                t.is(x.cell(2, 0, 0), -11);
                t.is(x.sheet(2, 2, 3), 1);
                t.is(x.cell(2, 3, 0), -12);
            }
        });
        e.promise(44, "BAD: SHEET, sort, n above 40;", t -> {
            for (int sort = -1; sort < 3; sort++) {
                int as = sort;
                t.refusedFor(-2, Scenes.NO_SHEETS, (x, s) -> x.sheet(s, as, 1));
            }
            t.refusedFor(-2, Scenes.beyond(-1, 2), (x, sort) -> x.sheet(0, sort, 1));
            t.refusedFor(-2, Scenes.beyond(-1, 2), (x, sort) -> x.sheet(3, sort, 0));
            for (int sort = 0; sort < 3; sort++) {
                int as = sort;
                t.refusedFor(-2, new int[] {41, 42, 160, MAX}, (x, n) -> x.sheet(0, as, n));
                t.refusedFor(-2, new int[] {41, MAX}, (x, n) -> x.sheet(3, as, n));
            }
        });
        e.promise(44, "-14.", t -> {
            for (int sort = 0; sort < 3; sort++) {
                int as = sort;
                t.refusedFor(-14, new int[] {-1, -2, -40, MIN}, (x, n) -> x.sheet(0, as, n));
                t.refused(-14, x -> x.sheet(3, as, -1));
            }
        });
        e.promise(44, "BAD: SHEET, sort, n above 40; -14.", t -> {
            t.refused(-2, x -> x.sheet(4, 0, -1));
            t.refused(-2, x -> x.sheet(0, 3, -1));
            t.refused(-2, x -> x.sheet(0, -2, -1));
        });
    }

    private static void cell(Edges e) {
        e.promise(45, "Number i of a SHEET becomes v (of bytes, shorts its lowest 8, 16 bits): 1.", t -> {
            // of each sort, what is as 5 and what isn't
            int[][] five = {{5, 261, -251, 65541, MIN + 5, 256 * 7 + 5}, {5, 65541, -65531, MIN + 5}, {5}};
            int[][] other = {{6, 4, -5, 133, 251}, {6, 261, -5, 256 + 5, 32768 + 5}, {6, 261, 65541, -65531, MIN + 5, MAX, MIN}};
            for (int sort = 0; sort < 3; sort++) {
                AnchorThatDrags x = withBoat();
                x.let(0, 0, 5);
                x.sheet(0, sort, 1);
                for (int v : five[sort]) {
                    t.is(x.cell(0, 0, v), 1);
                    t.is(x.judge(0, 0), -1);
                }
                for (int v : other[sort]) {
                    t.is(x.cell(0, 0, v), 1);
                    t.is(x.judge(0, 0), 0);
                }
            }
            // -1 of one that is gone: 8, 16, 32 bits that all are set
            AnchorThatDrags y = new AnchorThatDrags();
            y.boat(0, 900, 94, 5);
            y.goOn(1);
            int[][] minusOne = {{-1, 255, 511, 65535, MAX}, {-1, 65535, 131071, MAX}, {-1}};
            int[][] none = {{127, 128, 254, 256, 0, MIN}, {255, 32767, 32768, 65534, 65536}, {255, 65535, MAX, MIN}};
            for (int sort = 0; sort < 3; sort++) {
                y.sheet(0, sort, 1);
                for (int v : minusOne[sort]) {
                    y.cell(0, 0, v);
                    t.is(y.judge(0, 0), -1);
                }
                for (int v : none[sort]) {
                    y.cell(0, 0, v);
                    t.is(y.judge(0, 0), 0);
                }
            }
            // the first and the last number, and no other
            AnchorThatDrags z = withBoat();
            z.sheet(1, 0, 40);
            t.is(z.cell(1, 0, 3), 1);
            t.is(z.cell(1, 39, 4), 1);
            int[] want = new int[40];
            want[0] = 3;
            want[39] = 4;
            row(t, z, 1, 0, want);
        });
        e.promise(45, "BAD: SHEET;", t -> t.refusedFor(-2, Scenes.NO_SHEETS, (x, s) -> x.cell(s, 0, 1)));
        e.promise(45, "-11;", t -> {
            t.refused(-11, x -> x.cell(3, 0, 1));
            t.refusedFor(-11, Scenes.NEW, new int[] {0, 1, 2, 3}, (x, s) -> x.cell(s, 0, 1));
        });
        e.promise(45, "-12.", t -> {
            t.refusedFor(-12, new int[] {-1, 3, 4, 39, 40, MIN, MAX}, (x, i) -> x.cell(0, i, 1));
            t.refusedFor(-12, new int[] {-1, 2, 3, MIN, MAX}, (x, i) -> x.cell(1, i, 1));
            t.refusedFor(-12, new int[] {-1, 4, 5, MIN, MAX}, (x, i) -> x.cell(2, i, 1));
            Edges.Scene none = x -> x.sheet(0, 0, 0);
            t.refusedFor(-12, none, new int[] {-1, 0, 1}, (x, i) -> x.cell(0, i, 1));
        });
        e.promise(45, "BAD: SHEET; -11; -12.", t -> {
            t.refused(-2, x -> x.cell(4, -1, 1));
            t.refused(-11, x -> x.cell(3, -1, 1));
            t.refused(-11, x -> x.cell(3, 40, 1));
        });
    }

    private static void copy(Edges e) {
        e.promise(46, "BAD: SHEETS;", t -> {
            t.refusedFor(-2, Scenes.NO_SHEETS, (x, s) -> x.copy(s, 0, 0, 0, 1));
            t.refusedFor(-2, Scenes.NO_SHEETS, (x, s) -> x.copy(0, 0, s, 0, 1));
            t.refusedFor(-2, Scenes.NO_SHEETS, (x, s) -> x.copy(s, 0, s, 0, 1));
        });
        e.promise(46, "-11;", t -> {
            t.refusedFor(-11, new int[] {0, 1, 2, 3}, (x, s) -> x.copy(s, 0, 3, 0, 0));
            t.refusedFor(-11, new int[] {0, 1, 2, 3}, (x, s) -> x.copy(3, 0, s, 0, 0));
        });
        e.promise(46, "-13: unlike sorts;", t -> {
            int[][] unlike = {{0, 1}, {1, 0}, {0, 2}, {2, 0}, {1, 2}, {2, 1}};
            for (int[] s : unlike) {
                t.refused(-13, x -> x.copy(s[0], 0, s[1], 0, 1));
                t.refused(-13, x -> x.copy(s[0], 0, s[1], 0, 0));
            }
        });
        e.promise(46, "-12 (n below 0, too).", t -> {
            // sheet 0 of 3, sheet 3 of 5 numbers, both bytes
            Edges.Scene two = x -> {
                Scenes.fill(x, 0, 0, 1, 2, 3);
                Scenes.fill(x, 3, 0, 4, 5, 6, 7, 8);
            };
            t.refusedFor(-12, two, new int[] {-1, -2, -3, MIN}, (x, n) -> x.copy(0, 1, 3, 1, n));
            t.refusedFor(-12, two, new int[] {-1, -2, MIN}, (x, n) -> x.copy(0, 3, 3, 5, n));
            t.refusedFor(-12, two, new int[] {4, 5, 6, 40, MAX}, (x, n) -> x.copy(0, 0, 3, 0, n));
            t.refusedFor(-12, two, new int[] {4, 5, 6, MAX}, (x, n) -> x.copy(3, 0, 0, 0, n));
            t.refusedFor(-12, two, new int[] {3, 4, MAX, MAX - 1}, (x, n) -> x.copy(0, 1, 3, 1, n));
            t.refusedFor(-12, two, new int[] {-1, 3, 4, MIN, MAX}, (x, i) -> x.copy(0, i, 3, 0, 1));
            t.refusedFor(-12, two, new int[] {-1, 5, 6, MIN, MAX}, (x, j) -> x.copy(0, 0, 3, j, 1));
            t.refusedFor(-12, two, new int[] {-1, 4, 5, MIN, MAX}, (x, i) -> x.copy(0, i, 3, 0, 0));
            t.refusedFor(-12, two, new int[] {-1, 6, 7, MIN, MAX}, (x, j) -> x.copy(0, 0, 3, j, 0));
            // none, up to the end of both
            t.unchanged(two, x -> x.copy(0, 3, 3, 5, 0));
            AnchorThatDrags x = withBoat();
            two.on(x);
            t.is(x.copy(0, 3, 3, 5, 0), 0);
            t.is(x.copy(0, 0, 3, 0, 0), 0);
            t.is(x.copy(0, 0, 3, 2, 3), 3);
            row(t, x, 3, 0, 4, 5, 1, 2, 3);
            Edges.Scene empty = y -> y.sheet(0, 1, 0);
            t.refused(-12, empty, y -> y.copy(0, 0, 0, 0, 1));
            t.unchanged(empty, y -> y.copy(0, 0, 0, 0, 0));
        });
        e.promise(46, "BAD: SHEETS; -11; -13: unlike sorts; -12 (n below 0, too).", t -> {
            t.refused(-2, x -> x.copy(3, 0, 4, 0, -1));
            t.refused(-2, x -> x.copy(4, 0, 3, 0, -1));
            t.refused(-11, x -> x.copy(0, 9, 3, 0, -1));
            t.refused(-11, x -> x.copy(3, 9, 0, 0, -1));
            t.refused(-13, x -> x.copy(0, 9, 1, 9, 9));
            t.refused(-13, x -> x.copy(0, 0, 1, 0, -1));
        });
    }

    private static void overlaps(Edges e) {
        e.promise(46, "n numbers of a SHEET, from i on, come to another one's (or its own) place j (as they were): n.", t -> {
            for (int sort = 0; sort < 3; sort++) {
                AnchorThatDrags x = withBoat();
                Scenes.fill(x, 0, sort, 1, 2, 3, 4, 5);
                // up and down within itself
                t.is(x.copy(0, 0, 0, 1, 4), 4);
                row(t, x, 0, sort, 1, 1, 2, 3, 4);
                Scenes.fill(x, 0, sort, 1, 2, 3, 4, 5);
                t.is(x.copy(0, 1, 0, 0, 4), 4);
                row(t, x, 0, sort, 2, 3, 4, 5, 5);
                Scenes.fill(x, 0, sort, 1, 2, 3, 4, 5);
                t.is(x.copy(0, 0, 0, 0, 5), 5);
                row(t, x, 0, sort, 1, 2, 3, 4, 5);
                t.is(x.copy(0, 0, 0, 4, 1), 1);
                row(t, x, 0, sort, 1, 2, 3, 4, 1);
                // to another one, all of it and its end; the first one stays
                Scenes.fill(x, 2, sort, 6, 7, 8, 9, 10, 11);
                t.is(x.copy(0, 0, 2, 1, 5), 5);
                row(t, x, 2, sort, 6, 1, 2, 3, 4, 1);
                row(t, x, 0, sort, 1, 2, 3, 4, 1);
                // full ones
                x.sheet(0, sort, 40);
                x.sheet(2, sort, 40);
                x.cell(0, 39, 9);
                t.is(x.copy(0, 0, 2, 0, 40), 40);
                int[] want = new int[40];
                want[39] = 9;
                row(t, x, 2, sort, want);
            }
        });
    }

    private static void boatsBy(Edges e) {
        e.promise(47, "four by four (as of boat()), n of them (0 .. 6): how many came (others are left out).", t -> {
            AnchorThatDrags x = new AnchorThatDrags();
            int[] six = new int[24];
            for (int k = 0; k < 6; k++) {
                six[4 * k] = k;
                six[4 * k + 1] = 999 - k;
                six[4 * k + 2] = 99 - k;
                six[4 * k + 3] = 40 - k;
            }
            Scenes.fill(x, 0, 2, six);
            t.is(x.boatsBy(0, 2, 0, 0), 0);
            t.is(x.count(1), 0);
            t.is(x.boatsBy(0, 2, 0, 6), 6);
            for (int i = 0; i < 6; i++) {
                int[] told = {i, 9, 9, 9 - i, 99 - i, 40 - i};
                for (int what = 0; what < 6; what++) {
                    t.is(x.boatTold(i, what), told[what]);
                }
            }
            // full: they are left out
            t.is(x.boatsBy(0, 2, 0, 6), 0);
            t.is(x.count(1), 6);
            // what isn't as told is left out, the others come: of each number the bounds
            AnchorThatDrags y = new AnchorThatDrags();
            Scenes.fill(y, 0, 2, 6, 0, 0, 1, 0, 1000, 0, 1, 0, 0, 100, 1, 0, 0, 0, 41, 0, 0, 0, 0, 5, 999, 99, 40, -1, 0, 0, 1,
                0, -1, 0, 1, 0, 0, -1, 1);
            t.is(y.boatsBy(0, 2, 0, 6), 1);
            t.is(y.boatTold(0, 0), 5);
            t.is(y.boatsBy(0, 2, 24, 3), 0);
            t.is(y.count(1), 1);
            // some have room, others not
            AnchorThatDrags z = new AnchorThatDrags();
            for (int i = 0; i < 4; i++) {
                z.boat(0, 0, 0, 1);
            }
            Scenes.fill(z, 0, 2, six);
            t.is(z.boatsBy(0, 2, 0, 6), 2);
            t.is(z.boatTold(4, 0), 0);
            t.is(z.boatTold(5, 0), 1);
            t.is(z.count(1), 6);
        });
        e.promise(47, "BAD: SHEET, sort, n;", t -> {
            t.refusedFor(-2, Scenes.NO_SHEETS, (x, s) -> x.boatsBy(s, 0, 0, 0));
            t.refusedFor(-2, Scenes.beyond(0, 2), (x, sort) -> x.boatsBy(2, sort, 0, 1));
            t.refusedFor(-2, Scenes.beyond(0, 2), (x, sort) -> x.boatsBy(3, sort, 0, 1));
            t.refusedFor(-2, Scenes.beyond(0, 6), (x, n) -> x.boatsBy(2, 2, 0, n));
        });
        e.promise(47, "-11;", t -> {
            t.refusedFor(-11, new int[] {0, 1, 2}, (x, sort) -> x.boatsBy(3, sort, 0, 1));
            t.refused(-11, x -> x.boatsBy(3, 2, 0, 0));
        });
        e.promise(47, "-13;", t -> {
            // sheet s is of sort s
            for (int s = 0; s < 3; s++) {
                int as = s;
                t.refused(-13, x -> x.boatsBy(as, (as + 1) % 3, 0, 1));
                t.refused(-13, x -> x.boatsBy(as, (as + 2) % 3, 0, 0));
            }
        });
        e.promise(47, "BAD: SHEET, sort, n; -11; -13; -12:", t -> {
            t.refused(-2, x -> x.boatsBy(4, 2, 0, 1));
            t.refused(-2, x -> x.boatsBy(3, 3, -1, 1));
            t.refused(-2, x -> x.boatsBy(3, 2, -1, 7));
            t.refused(-11, x -> x.boatsBy(3, 2, -1, 1));
            t.refused(-13, x -> x.boatsBy(0, 2, -1, 1));
        });
    }

    private static void placesOfBoats(Edges e) {
        e.promise(47, "-12: what stood ahead came.", t -> {
            // two and a half boats from place 1 on
            int[] row = {9, 1, 10, 20, 30, 2, 11, 21, 31, 3, 12, 22};
            Edges.Scene some = x -> Scenes.fill(x, 0, 2, row);
            AnchorThatDrags x = new AnchorThatDrags();
            some.on(x);
            t.is(x.boatsBy(0, 2, 1, 3), -12);
            t.is(x.count(1), 2);
            t.is(x.boatTold(0, 0), 1);
            t.is(x.boatTold(1, 0), 2);
            t.is(x.boatTold(1, 5), 31);
            t.is(x.boatsBy(0, 2, 5, 6), -12);
            t.is(x.count(1), 3);
            // the last four that there are, then one place further
            t.is(x.boatsBy(0, 2, 5, 1), 1);
            t.is(x.count(1), 4);
            t.is(x.boatsBy(0, 2, 8, 1), 0);
            t.is(x.boatsBy(0, 2, 9, 1), -12);
            t.is(x.count(1), 4);
            // nothing stood ahead
            t.refusedFor(-12, some, new int[] {-1, -4, 9, 10, 11, 12, 13, 40, MIN, MIN + 3, MAX, MAX - 3, MAX - 4}, (y, at) -> y.boatsBy(0, 2, at, 1));
            t.refusedFor(-12, some, new int[] {-1, -4, 9, 12, 40, MIN, MAX, MAX - 3, MAX - 7}, (y, at) -> y.boatsBy(0, 2, at, 6));
            // what is left out ahead of it is no matter, nor that there is no room
            AnchorThatDrags z = new AnchorThatDrags();
            Scenes.fill(z, 0, 2, 6, 0, 0, 1, 0, 0, 0, 1);
            t.is(z.boatsBy(0, 2, 0, 3), -12);
            t.is(z.count(1), 1);
            AnchorThatDrags w = new AnchorThatDrags();
            for (int i = 0; i < 6; i++) {
                w.boat(0, 0, 0, 1);
            }
            some.on(w);
            t.is(w.boatsBy(0, 2, 1, 3), -12);
            t.is(w.boatsBy(0, 2, 1, 2), 0);
            t.is(w.count(1), 6);
            // an empty sheet, and one of 40
            AnchorThatDrags v = new AnchorThatDrags();
            v.sheet(0, 1, 0);
            t.is(v.boatsBy(0, 1, 0, 1), -12);
            v.sheet(0, 1, 40);
            v.cell(0, 39, 1);
            t.is(v.boatsBy(0, 1, 36, 1), 1);
            t.is(v.boatsBy(0, 1, 36, 2), -12);
            t.is(v.count(1), 2);
            t.is(v.boatsBy(0, 1, 37, 1), -12);
            // of none no place is read
            t.is(v.boatsBy(0, 1, 40, 0), 0);
        });
    }

    private static void taken(Edges e) {
        e.promise(48, "the first BOAT whose anchor is there,", t -> {
            AnchorThatDrags x = new AnchorThatDrags();
            x.boat(2, 0, 0, 5);
            x.boat(1, 0, 0, 5);
            x.boat(0, 0, 99, 5);
            t.is(x.taken(0, 0), 0);
            // the first one alone counts
            t.is(x.taken(0, 2), 0);
            t.is(x.taken(0, 1), -13);
            t.is(x.taken(99, 0), 2);
            x.let(0, 0, 1);
            t.is(x.taken(0, 1), 1);
            // its anchor, not where it lies; none that is gone
            AnchorThatDrags y = new AnchorThatDrags();
            y.boat(0, 900, 94, 40);
            t.is(y.taken(94, 0), 0);
            y.goOn(1);
            t.is(y.taken(94, 6), 50);
            y.let(0, 0, 4);
            t.is(y.taken(4, 0), 0);
            t.is(y.taken(74, 6), 50);
        });
        e.promise(48, "else, if its DEPTH is above 0, the water,", t -> {
            AnchorThatDrags x = new AnchorThatDrags();
            x.sound(0, 0, 1);
            x.sound(99, 0, 0);
            x.blow(0, 2, -3);
            t.is(x.taken(0, 6), 10);
            t.is(x.taken(99, 6), -11);
            x.blow(0, 2, 3);
            t.is(x.taken(99, 6), -11);
            // a boat is there though there is no water
            x.boat(0, 0, 99, 5);
            t.is(x.taken(99, 0), 0);
            t.is(x.taken(99, 6), -13);
        });
        e.promise(48, "taken for 0 .. 5 a BOAT of that KIND (also of one that is one): its number;", t -> {
            int[] bits = {1, 1 + 2, 1 + 4, 1 + 8, 1 + 2 + 16, 1 + 2 + 32};
            for (int kind = 0; kind < 6; kind++) {
                AnchorThatDrags x = new AnchorThatDrags();
                x.boat(0, 0, 0, 5);
                x.boat(kind, 0, 44, 5);
                for (int as = 0; as < 6; as++) {
                    t.is(x.taken(44, as), (bits[kind] >> as & 1) == 1 ? 1 : -13);
                }
                t.is(x.taken(44, 6), -13);
            }
        });
        e.promise(48, "6 water: 10 times DEPTH, and BED.", t -> {
            AnchorThatDrags x = new AnchorThatDrags();
            t.is(x.taken(0, 6), 50);
            x.sound(99, 0, 30);
            x.sound(99, 1, 3);
            t.is(x.taken(99, 6), 303);
            x.sound(99, 0, 1);
            t.is(x.taken(99, 6), 13);
            x.sound(99, 1, 0);
            t.is(x.taken(99, 6), 10);
        });
    }

    private static void takenRefusals(Edges e) {
        e.promise(48, "BAD: kind;", t -> {
            t.refusedFor(-2, Scenes.beyond(0, 6), (x, kind) -> x.taken(44, kind));
            t.refusedFor(-2, Scenes.beyond(0, 6), (x, kind) -> x.taken(0, kind));
        });
        e.promise(48, "-12: no such CELL;", t -> {
            for (int kind = 0; kind < 7; kind++) {
                int as = kind;
                t.refusedFor(-12, Scenes.NO_CELLS, (x, c) -> x.taken(c, as));
            }
        });
        e.promise(48, "-11: neither is there;", t -> {
            Edges.Scene dry = x -> {
                x.chart(0, 99, 0, 0);
                x.boat(0, 0, 99, 5);
            };
            for (int kind = 0; kind < 7; kind++) {
                int as = kind;
                t.refused(-11, dry, x -> x.taken(0, as));
                t.refused(-11, dry, x -> x.taken(88, as));
            }
        });
        e.promise(48, "-11: neither is there; -13.", t -> {
            // BUSY: a DUG in 44, a PLOUGH in 7
            for (int kind : new int[] {2, 3, 4, 5, 6}) {
                t.refused(-13, x -> x.taken(44, kind));
            }
            for (int kind : new int[] {1, 3, 4, 5, 6}) {
                t.refused(-13, x -> x.taken(7, kind));
            }
            // water for a boat
            for (int kind = 0; kind < 6; kind++) {
                int as = kind;
                t.refused(-13, x -> x.taken(0, as));
            }
        });
        e.promise(48, "BAD: kind; -12: no such CELL; -11: neither is there; -13.", t -> {
            t.refused(-2, x -> x.taken(100, 7));
            t.refused(-2, x -> x.taken(-1, -1));
            Edges.Scene dry = x -> x.sound(0, 0, 0);
            t.refused(-2, dry, x -> x.taken(0, 7));
            t.refused(-11, dry, x -> x.taken(0, 0));
        });
    }
}
