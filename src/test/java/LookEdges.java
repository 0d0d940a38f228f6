/** The terms of films, promises 36 to 39. */
final class LookEdges {
    private LookEdges() {
    }

    static void all(Edges e) {
        terms(e);
        judge(e);
        which(e);
        laws(e);
        film(e);
    }

    /** A boat that goes ashore by 84 and 94, one that stays in 44. */
    private static AnchorThatDrags two() {
        AnchorThatDrags x = new AnchorThatDrags();
        x.boat(0, 900, 74, 5);
        x.boat(0, 0, 44, 5);
        return x;
    }

    /** Sheets 0 and 1 are of 0 and of more numbers than there are hours, sheet 2 is of as many, sheet 3 is missing. */
    private static final Edges.Scene[] LENGTHS = new Edges.Scene[12];

    static {
        for (int now = 0; now < 12; now++) {
            int then = now;
            LENGTHS[now] = x -> {
                x.boat(0, 0, 44, 5);
                x.boat(0, 0, 44, 5);
                x.goOn(then);
                x.sheet(0, 2, 0);
                x.sheet(1, 0, 13 - then);
                Scenes.fill(x, 2, 1, 44);
                x.sheet(2, 1, 12 - then);
            };
        }
    }

    /** BAD: a film of no such size; NOW being any hour. */
    private static void sizes(Edges t, Edges.CallWith call) {
        for (int now = 0; now < 12; now++) {
            t.refused(-2, LENGTHS[now], x -> call.on(x, 0));
            t.refused(-2, LENGTHS[now], x -> call.on(x, 1));
            AnchorThatDrags x = new AnchorThatDrags();
            LENGTHS[now].on(x);
            t.isNot(call.on(x, 2), -2);
            x.sheet(1, 2, 1);
            t.isNot(call.on(x, 1), -2);
            x.sheet(1, 2, 40);
            t.is(call.on(x, 1), -2);
        }
    }

    private static void terms(Edges e) {
        e.terms("CELLS in which a BOAT LIES in HOUR NOW, and so on (-1: its anchor is gone).", t -> {
            AnchorThatDrags x = two();
            int[] lies = {84, 94, -1, -1, -1, -1, -1, -1, -1, -1, -1, -1};
            Scenes.fill(x, 0, 2, lies);
            t.is(x.judge(0, 0), -1);
            x.goOn(1);
            Scenes.fill(x, 0, 2, 94, -1);
            t.is(x.judge(0, 0), -1);
            x.goOn(1);
            Scenes.fill(x, 0, 2, -1, -1, -1, -1, -1, -1, -1, -1, -1, -1);
            t.is(x.judge(0, 0), -1);
            // no other number says that it is gone
            for (int v : new int[] {-2, 0, 94, 100, 104, 255, Integer.MIN_VALUE, Integer.MAX_VALUE}) {
                x.cell(0, 9, v);
                t.is(x.judge(0, 0), 9);
            }
            // where it lies, not where its anchor is
            x.let(1, 1, 8);
            Scenes.fill(x, 0, 2, 54);
            t.is(x.judge(1, 0), -1);
        });
    }

    private static void judge(Edges e) {
        e.promise(36, "The first number of a FILM at which a BOAT LIES elsewhere; -1: none.", t -> {
            AnchorThatDrags x = two();
            Scenes.fill(x, 0, 2, 84, 94, -1, -1, -1, -1, -1, -1, -1, -1, -1, -1);
            t.is(x.judge(0, 0), -1);
            for (int k = 11; k >= 0; k--) {
                x.cell(0, k, 1);
                t.is(x.judge(0, 0), k);
            }
            // of one number; of bytes and shorts, of which -1 is kept
            Scenes.fill(x, 0, 0, 84);
            t.is(x.judge(0, 0), -1);
            t.is(x.judge(1, 0), 0);
            Scenes.fill(x, 0, 0, 84, 94, -1);
            t.is(x.judge(0, 0), -1);
            Scenes.fill(x, 0, 1, 84, 94, -1);
            t.is(x.judge(0, 0), -1);
            // number 0 is that of NOW
            x.goOn(11);
            Scenes.fill(x, 0, 0, 44);
            t.is(x.judge(1, 0), -1);
            t.is(x.judge(0, 0), 0);
        });
        e.promise(36, "-5: no such BOAT;", t -> {
            t.refusedFor(-5, Scenes.NO_BOATS, (x, i) -> x.judge(i, 0));
            t.refusedFor(-5, Scenes.NO_BOATS, (x, i) -> x.judge(i, 3));
        });
        e.promise(36, "BAD: SHEET;", t -> t.refusedFor(-2, Scenes.NO_SHEETS, (x, s) -> x.judge(0, s)));
        e.promise(36, "-11;", t -> {
            t.refused(-11, x -> x.judge(0, 3));
            t.refusedFor(-11, Scenes.at(0), new int[] {1, 2, 3}, (x, s) -> x.judge(0, s));
        });
        e.promise(36, "BAD: its size isn't 1 .. 12 less NOW.", t -> sizes(t, (x, s) -> x.judge(0, s)));
        e.promise(36, "-5: no such BOAT; BAD: SHEET; -11; BAD: its size isn't 1 .. 12 less NOW.", t -> {
            t.refused(-5, x -> x.judge(4, 4));
            t.refused(-5, LENGTHS[0], x -> x.judge(2, 3));
            t.refused(-5, LENGTHS[0], x -> x.judge(2, 0));
        });
    }

    private static void which(Edges e) {
        e.promise(37, "BOATS (bits) for which that is -1.", t -> {
            AnchorThatDrags x = new AnchorThatDrags();
            Scenes.fill(x, 0, 2, 44);
            t.is(x.which(0), 0);
            for (int i = 0; i < 6; i++) {
                x.boat(0, 0, 44, 5);
                t.is(x.which(0), (2 << i) - 1);
            }
            x.let(0, 0, 0);
            t.is(x.which(0), 62);
            x.let(5, 0, 99);
            t.is(x.which(0), 30);
            x.cell(0, 0, 99);
            t.is(x.which(0), 32);
            x.cell(0, 0, 98);
            t.is(x.which(0), 0);
            // gone ones, too
            AnchorThatDrags y = two();
            y.goOn(3);
            Scenes.fill(y, 0, 1, -1, -1);
            t.is(y.which(0), 1);
        });
        e.promise(37, "BAD, -11, BAD as of judge().", t -> {
            t.refusedFor(-2, Scenes.NO_SHEETS, AnchorThatDrags::which);
            t.refused(-11, x -> x.which(3));
            t.refusedFor(-11, Scenes.NEW, new int[] {0, 1, 2, 3}, AnchorThatDrags::which);
            sizes(t, AnchorThatDrags::which);
        });
    }

    private static void laws(Edges e) {
        e.promise(38, "TEXTS (bits), were they THE LAW, by which it is for a BOAT.", t -> {
            AnchorThatDrags x = new AnchorThatDrags();
            x.boat(0, 0, 44, 5);
            Scenes.fill(x, 0, 2, 44, 44);
            t.is(x.laws(0, 0), 1);
            for (int n = 1; n < 6; n++) {
                Scenes.text(x, n % 2 == 0 ? "pull 0;hold 0;jerk 0;" : "pull 9;hold 0;jerk 0;");
                t.is(x.laws(0, 0), 0x15 & (2 << n) - 1);
            }
            Scenes.fill(x, 0, 2, 54, 64);
            t.is(x.laws(0, 0), 0x2a);
            Scenes.fill(x, 0, 2, 55, 64);
            t.is(x.laws(0, 0), 0);
            // the law is as it was, whichever it is
            for (int n = 0; n < 6; n++) {
                x.force(n);
                t.is(x.laws(0, 0), 0);
                t.is(x.count(3), n);
                t.is(x.asks(0, 101, 0, 0), n == 0 ? 1 : n % 2 == 0 ? 0 : 9);
            }
            // of one that is gone all are
            AnchorThatDrags y = two();
            y.goOn(3);
            Scenes.text(y, "pull 0;hold 0;jerk 0;");
            Scenes.fill(y, 0, 0, -1);
            t.is(y.laws(0, 0), 3);
        });
        e.promise(38, "-5: no such BOAT;", t -> t.refusedFor(-5, Scenes.NO_BOATS, (x, i) -> x.laws(i, 0)));
        e.promise(38, "BAD, -11, BAD as of judge().", t -> {
            t.refusedFor(-2, Scenes.NO_SHEETS, (x, s) -> x.laws(0, s));
            t.refused(-11, x -> x.laws(0, 3));
            sizes(t, (x, s) -> x.laws(0, s));
        });
        e.promise(38, "-5: no such BOAT; BAD, -11, BAD as of judge().", t -> {
            t.refused(-5, x -> x.laws(4, 4));
            t.refused(-5, x -> x.laws(4, 3));
            t.refused(-5, LENGTHS[0], x -> x.laws(2, 0));
        });
    }

    private static void film(Edges e) {
        e.promise(39, "A SHEET truly becomes the FILM (ints) of a BOAT in n HOURS: n.", t -> {
            AnchorThatDrags x = two();
            // a missing one, and each sort, become ints
            for (int s = 0; s < 4; s++) {
                if (s > 0) {
                    x.sheet(s, s - 1, 40);
                }
                t.is(x.film(0, s, 12), 12);
                t.is(x.copy(s, 0, 0, 0, 12), 12);
                t.is(x.cell(s, 12, 0), -12);
                t.is(x.judge(0, s), -1);
            }
            // of no hours: there, but empty
            t.is(x.film(1, 3, 0), 0);
            t.is(x.cell(3, 0, 0), -12);
            t.is(x.judge(1, 3), -2);
            t.is(x.sheet(3, -1, 0), 1);
            t.is(x.film(1, 3, 0), 0);
            t.is(x.cell(3, 0, 0), -12);
            // of the last hour; of one that is gone
            x.goOn(11);
            t.is(x.film(0, 2, 1), 1);
            Scenes.fill(x, 1, 2, -1);
            t.is(x.copy(2, 0, 3, 0, 0), 0);
            t.is(x.judge(0, 2), -1);
            t.is(x.judge(1, 2), 0);
            // nothing else
            t.is(x.boatTold(0, 4), -1);
            t.is(x.count(0), 11);
        });
        e.promise(39, "-5: no such BOAT;", t -> t.refusedFor(-5, Scenes.NO_BOATS, (x, i) -> x.film(i, 0, 1)));
        e.promise(39, "BAD: SHEET;", t -> t.refusedFor(-2, Scenes.NO_SHEETS, (x, s) -> x.film(0, s, 1)));
        e.promise(39, "-7: n.", t -> {
            t.nights(-7, (x, n) -> x.film(0, 0, n));
            t.refusedFor(-7, Scenes.NO_NIGHTS, (x, n) -> x.film(0, 0, n));
            t.refusedFor(-7, Scenes.NO_NIGHTS, (x, n) -> x.film(0, 3, n));
        });
        e.promise(39, "-5: no such BOAT; BAD: SHEET; -7: n.", t -> {
            t.refused(-5, x -> x.film(4, 4, 11));
            t.refused(-2, x -> x.film(0, 4, 11));
        });
    }
}
