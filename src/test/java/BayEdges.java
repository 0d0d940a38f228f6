/** What it is, the terms of the bay and its hours, promises 1 to 6. */
final class BayEdges {
    private static final int MIN = Integer.MIN_VALUE, MAX = Integer.MAX_VALUE;

    private BayEdges() {
    }

    static void all(Edges e) {
        object(e);
        cells(e);
        hours(e);
        deep(e);
        newObject(e);
        sound(e);
        chart(e);
        blow(e);
        told(e);
        count(e);
    }

    private static void object(Edges e) {
        e.test("What it is", "An object is used for at most 512 calls after it has been made; what later calls answer is free.", t -> {
            AnchorThatDrags x = new AnchorThatDrags();
            for (int k = 1; k < 512; k++) {
                t.is(x.sound(k % 100, 0, k % 31), k <= 100 ? 5 : (k - 100) % 31);
            }
            // the 512th
            t.is(x.told(11, 0), 511 % 31);
            // free, but rule 7: no call throws
            for (int k = 0; k < 512; k++) {
                x.sound(k, k, k);
            }
            t.is(1, 1);
        });
        e.test("The public face", "public static final int NONE = -1, BAD = -2, STATE = -3, FULL = -4;", t -> {
            t.is(AnchorThatDrags.NONE, -1);
            t.is(AnchorThatDrags.BAD, -2);
            t.is(AnchorThatDrags.STATE, -3);
            t.is(AnchorThatDrags.FULL, -4);
        });
        e.test("The public face", "public static final long NO = -4611686018427387904L;", t -> {
            t.is(AnchorThatDrags.NO, -(1L << 62));
            t.is(new AnchorThatDrags().turns(0, 0), -(1L << 62));
        });
    }

    private static void cells(Edges e) {
        e.terms("THE BAY: CELLS 0 .. 99: 10 y and x;", t -> {
            t.is(new AnchorThatDrags().told(0, 0), 5);
            t.is(new AnchorThatDrags().told(99, 0), 5);
            t.refusedFor(-5, Scenes.NO_CELLS, (x, c) -> x.told(c, 0));
            // 9 is y 0 and x 9, 10 y 1 and x 0: two of a row beside, two rows above one another
            AnchorThatDrags x = new AnchorThatDrags();
            t.is(x.chart(9, 12, 0, 7), 1);
            t.is(x.chart(10, 12, 0, 8), 2);
            t.is(x.chart(9, 21, 0, 9), 2);
            int[] cell = {8, 9, 10, 11, 12, 19, 20, 29};
            int[] depth = {5, 9, 8, 8, 5, 9, 5, 5};
            for (int k = 0; k < cell.length; k++) {
                t.is(x.told(cell[k], 0), depth[k]);
            }
        });
        e.terms("DEPTH (0 .. 30; 5 at first)", t -> {
            AnchorThatDrags x = new AnchorThatDrags();
            for (int c = 0; c < 100; c++) {
                t.is(x.told(c, 0), 5);
            }
            t.is(x.sound(44, 0, 0), 5);
            t.is(x.told(44, 0), 0);
            t.is(x.sound(44, 0, 30), 0);
            t.is(x.told(44, 0), 30);
            t.refusedFor(-7, Scenes.beyond(0, 30), (y, v) -> y.sound(44, 0, v));
        });
        e.terms("BED (0 sand, 1 mud, 2 weed, 3 rock; 0 at first)", t -> {
            AnchorThatDrags x = new AnchorThatDrags();
            for (int c = 0; c < 100; c++) {
                t.is(x.told(c, 1), 0);
            }
            for (int v = 1; v < 4; v++) {
                t.is(x.sound(44, 1, v), v - 1);
                t.is(x.told(44, 1), v);
            }
            t.is(x.sound(44, 1, 0), 3);
            t.refusedFor(-7, Scenes.beyond(0, 3), (y, v) -> y.sound(44, 1, v));
        });
    }

    private static void hours(Edges e) {
        e.terms("HOURS 0 .. 11:", t -> {
            AnchorThatDrags x = new AnchorThatDrags();
            t.is(x.told(0, 3), 20);
            t.is(x.told(11, 3), 20);
            t.refusedFor(-5, Scenes.NO_HOURS, (y, h) -> y.told(h, 3));
        });
        e.terms("the WAY of the wind (0 .. 7: to y and 1; y and 1, x and 1; x and 1; y less 1, x and 1; y less 1; "
            + "y less 1, x less 1; x less 1; y and 1, x less 1; 0 at first)", t -> {
            int[] to = {54, 55, 45, 35, 34, 33, 43, 53};
            for (int way = 0; way < 8; way++) {
                AnchorThatDrags x = new AnchorThatDrags();
                x.boat(0, 900, 44, 5);
                t.is(x.told(0, 2), 0);
                t.is(x.blow(0, 0, way), 0);
                t.is(x.told(0, 2), way);
                t.is(x.night(1, 0, 0), to[way]);
            }
            t.is(new AnchorThatDrags().told(11, 2), 0);
            t.refusedFor(-7, Scenes.beyond(0, 7), (x, v) -> x.blow(0, 0, v));
        });
        e.terms("how STRONG it is (0 .. 99; 20 at first)", t -> {
            AnchorThatDrags x = new AnchorThatDrags();
            for (int h = 0; h < 12; h++) {
                t.is(x.told(h, 3), 20);
            }
            t.is(x.blow(0, 1, 0), 20);
            t.is(x.blow(0, 1, 99), 0);
            t.is(x.told(0, 3), 99);
            t.refusedFor(-7, Scenes.beyond(0, 99), (y, v) -> y.blow(0, 1, v));
        });
        e.terms("TIDE (-3 .. 3; 0 at first)", t -> {
            AnchorThatDrags x = new AnchorThatDrags();
            for (int h = 0; h < 12; h++) {
                t.is(x.told(h, 4), 0);
            }
            t.is(x.blow(0, 2, -3), 0);
            t.is(x.told(0, 4), -3);
            t.is(x.blow(0, 2, 3), -3);
            t.is(x.told(0, 4), 3);
            t.refusedFor(-7, Scenes.beyond(-3, 3), (y, v) -> y.blow(0, 2, v));
        });
        e.terms("NOW: the HOUR (0 at first).", t -> t.is(new AnchorThatDrags().count(0), 0));
    }

    private static void deep(Edges e) {
        e.terms("DEEP is a CELL in an HOUR: DEPTH and TIDE (0 at least).", t -> {
            AnchorThatDrags x = Scenes.under("pull deep;hold 9;jerk 0;");
            x.boat(0, 0, 44, 40);
            x.blow(1, 2, -3);
            x.blow(2, 2, 3);
            int[][] depthAndDeep = {{0, 0, 0, 3}, {1, 1, 0, 4}, {2, 2, 0, 5}, {3, 3, 0, 6}, {4, 4, 1, 7}, {30, 30, 27, 33}};
            for (int[] d : depthAndDeep) {
                x.sound(44, 0, d[0]);
                t.is(x.hold(0, 0, 0), d[1]);
                t.is(x.hold(0, 1, 0), d[2]);
                t.is(x.hold(0, 2, 0), d[3]);
            }
        });
    }

    private static void newObject(Edges e) {
        e.promise(1, "No BOATS.", t -> {
            AnchorThatDrags x = new AnchorThatDrags();
            t.is(x.count(1), 0);
            for (int i = 0; i < 6; i++) {
                t.is(x.boatTold(i, 0), -5);
                t.is(x.let(i, 0, 0), -5);
                t.is(x.hold(i, 0, 0), -5);
                t.is(x.night(0, i, 0), -5);
                t.is(x.veer(i, 0), -5);
                t.is(x.drop(i, 0, 0), -5);
                t.is(x.rings(i, 5 - i), -5);
                t.is(x.alarm(i, 0, 0), -5);
                t.is(x.size(i, 0, 0), -5);
                t.is(x.marks(i, 0, 1, 0), -5);
                t.is(x.next(i, 1, 0), -5);
                t.is(x.two(i, 0, 0, 0), -5);
                t.is(x.angle(i, 0), -5);
                t.is(x.turns(i, 0), AnchorThatDrags.NO);
                t.is(x.judge(i, 0), -5);
                t.is(x.laws(i, 0), -5);
                t.is(x.film(i, 0, 0), -5);
                t.is(x.drawn(0, 0, i, 0), -5);
                t.is(x.chance(i, 0, 100, 0), AnchorThatDrags.NO);
            }
            t.is(x.late(), -1);
            t.is(x.image(), 0);
            t.is(x.goOn(11), 11);
            t.is(x.back(), 0);
            t.is(x.count(0), 0);
            t.is(x.boat(0, 0, 0, 1), 0);
        });
    }

    private static void sound(Edges e) {
        e.promise(2, "What 0 DEPTH, 1 BED of a CELL becomes v: what was.", t -> {
            for (int c : new int[] {0, 99}) {
                AnchorThatDrags x = new AnchorThatDrags();
                t.is(x.sound(c, 0, 30), 5);
                t.is(x.sound(c, 0, 0), 30);
                t.is(x.sound(c, 0, 0), 0);
                t.is(x.sound(c, 1, 3), 0);
                t.is(x.sound(c, 1, 0), 3);
                t.is(x.sound(c, 1, 2), 0);
                t.is(x.told(c, 0), 0);
                t.is(x.told(c, 1), 2);
                // its neighbours, and the cell at the other end
                for (int other : new int[] {1, 10, 89, 98, 99 - c}) {
                    t.is(x.told(other, 0), 5);
                    t.is(x.told(other, 1), 0);
                }
            }
        });
        e.promise(2, "-5: no such CELL;", t -> {
            t.refusedFor(-5, Scenes.NO_CELLS, (x, c) -> x.sound(c, 0, 1));
            t.refusedFor(-5, Scenes.NO_CELLS, (x, c) -> x.sound(c, 1, 1));
        });
        e.promise(2, "-7: what, v.", t -> {
            t.refusedFor(-7, Scenes.beyond(0, 1), (x, what) -> x.sound(44, what, 1));
            t.refusedFor(-7, Scenes.beyond(0, 30), (x, v) -> x.sound(0, 0, v));
            t.refusedFor(-7, Scenes.beyond(0, 3), (x, v) -> x.sound(99, 1, v));
            // 30 is no BED
            t.refused(-7, x -> x.sound(44, 1, 30));
        });
        e.promise(2, "-5: no such CELL; -7: what, v.", t -> {
            t.refused(-5, x -> x.sound(100, 2, 1));
            t.refused(-5, x -> x.sound(-1, 0, 31));
        });
    }

    /** Of the bay only the cells told hold v. */
    private static void charted(Edges t, AnchorThatDrags x, int what, int v, int y, int x0, int rows, int each) {
        for (int c = 0; c < 100; c++) {
            boolean in = c / 10 >= y && c / 10 < y + rows && c % 10 >= x0 && c % 10 < x0 + each;
            t.is(x.told(c, what), in ? v : what == 0 ? 5 : 0);
            t.is(x.told(c, 1 - what), what == 0 ? 0 : 5);
        }
    }

    private static void chart(Edges e) {
        e.promise(3, "of all CELLS from one on to greater x and y (shape: 10 times how many rows, and how many in each, 1 .. 9 both)", t -> {
            int[][] cases = {{0, 11, 1}, {0, 19, 9}, {0, 91, 9}, {0, 99, 81}, {11, 99, 81}, {88, 22, 4}, {44, 23, 6}};
            for (int[] c : cases) {
                AnchorThatDrags x = new AnchorThatDrags();
                t.is(x.chart(c[0], c[1], 0, 30), c[2]);
                charted(t, x, 0, 30, c[0] / 10, c[0] % 10, c[1] / 10, c[1] % 10);
                AnchorThatDrags z = new AnchorThatDrags();
                t.is(z.chart(c[0], c[1], 1, 3), c[2]);
                charted(t, z, 1, 3, c[0] / 10, c[0] % 10, c[1] / 10, c[1] % 10);
            }
        });
        e.promise(3, "as far as they are there: how many.", t -> {
            int[][] cases = {{99, 99, 1}, {99, 11, 1}, {90, 99, 9}, {9, 99, 9}, {90, 19, 9}, {91, 19, 9}, {92, 19, 8},
                {9, 12, 1}, {90, 21, 1}, {88, 99, 4}, {87, 33, 6}, {12, 99, 72}, {21, 99, 72}, {0, 99, 81}};
            for (int[] c : cases) {
                AnchorThatDrags x = new AnchorThatDrags();
                t.is(x.chart(c[0], c[1], 0, 0), c[2]);
                charted(t, x, 0, 0, c[0] / 10, c[0] % 10, c[1] / 10, c[1] % 10);
            }
        });
        e.promise(3, "BAD: CELL, shape;", t -> {
            t.refusedFor(-2, Scenes.NO_CELLS, (x, c) -> x.chart(c, 11, 0, 1));
            t.refusedFor(-2, Scenes.NO_SHAPES, (x, shape) -> x.chart(44, shape, 0, 1));
            t.refusedFor(-2, Scenes.NO_SHAPES, (x, shape) -> x.chart(0, shape, 1, 1));
        });
        e.promise(3, "-7: what, v.", t -> {
            t.refusedFor(-7, Scenes.beyond(0, 1), (x, what) -> x.chart(44, 22, what, 1));
            t.refusedFor(-7, Scenes.beyond(0, 30), (x, v) -> x.chart(44, 22, 0, v));
            t.refusedFor(-7, Scenes.beyond(0, 3), (x, v) -> x.chart(44, 22, 1, v));
        });
        e.promise(3, "BAD: CELL, shape; -7: what, v.", t -> {
            t.refused(-2, x -> x.chart(100, 11, 2, 31));
            t.refused(-2, x -> x.chart(99, 10, 0, 31));
            t.refused(-2, x -> x.chart(99, 1, 2, 1));
        });
    }

    private static void blow(Edges e) {
        e.promise(4, "What 0 the WAY, 1 how STRONG, 2 TIDE of an HOUR becomes v: what was.", t -> {
            int[][] leastAndMost = {{0, 7, 0}, {0, 99, 20}, {-3, 3, 0}};
            for (int what = 0; what < 3; what++) {
                for (int h : new int[] {0, 11}) {
                    AnchorThatDrags x = new AnchorThatDrags();
                    int[] v = leastAndMost[what];
                    t.is(x.blow(h, what, v[0]), v[2]);
                    t.is(x.blow(h, what, v[1]), v[0]);
                    t.is(x.blow(h, what, v[1]), v[1]);
                    t.is(x.told(h, 2 + what), v[1]);
                    t.is(x.told(11 - h, 2 + what), v[2]);
                    for (int other = 0; other < 3; other++) {
                        t.is(x.told(h, 2 + other), other == what ? v[1] : leastAndMost[other][2]);
                    }
                }
            }
            // an hour that has passed, too
            AnchorThatDrags x = new AnchorThatDrags();
            x.goOn(11);
            t.is(x.blow(0, 1, 7), 20);
            t.is(x.told(0, 3), 7);
        });
        e.promise(4, "-5: no such HOUR;", t -> {
            for (int what = 0; what < 3; what++) {
                int as = what;
                t.refusedFor(-5, Scenes.NO_HOURS, (x, h) -> x.blow(h, as, 1));
            }
        });
        e.promise(4, "-7: what, v.", t -> {
            t.refusedFor(-7, Scenes.beyond(0, 2), (x, what) -> x.blow(3, what, 1));
            t.refusedFor(-7, Scenes.beyond(0, 7), (x, v) -> x.blow(0, 0, v));
            t.refusedFor(-7, Scenes.beyond(0, 99), (x, v) -> x.blow(11, 1, v));
            t.refusedFor(-7, Scenes.beyond(-3, 3), (x, v) -> x.blow(3, 2, v));
            // as told of one it is not of the others
            t.refused(-7, x -> x.blow(3, 0, -3));
            t.refused(-7, x -> x.blow(3, 0, 99));
            t.refused(-7, x -> x.blow(3, 1, -3));
            t.refused(-7, x -> x.blow(3, 2, 7));
        });
        e.promise(4, "-5: no such HOUR; -7: what, v.", t -> {
            t.refused(-5, x -> x.blow(12, 3, 1));
            t.refused(-5, x -> x.blow(-1, 0, 8));
        });
    }

    private static void told(Edges e) {
        e.promise(5, "What 0 DEPTH, 1 BED of CELL i, 2 the WAY, 3 how STRONG, 4 TIDE of HOUR i.", t -> {
            AnchorThatDrags x = new AnchorThatDrags();
            x.sound(0, 0, 0);
            x.sound(99, 0, 30);
            x.sound(0, 1, 3);
            x.sound(99, 1, 2);
            for (int h : new int[] {0, 11}) {
                x.blow(h, 0, h == 0 ? 7 : 6);
                x.blow(h, 1, h == 0 ? 99 : 0);
                x.blow(h, 2, h == 0 ? -3 : 3);
            }
            int[] first = {0, 3, 7, 99, -3};
            int[] last = {30, 2, 6, 0, 3};
            for (int what = 0; what < 5; what++) {
                t.is(x.told(0, what), first[what]);
                t.is(x.told(what < 2 ? 99 : 11, what), last[what]);
            }
        });
        e.promise(5, "-7: what;", t -> t.refusedFor(-7, Scenes.beyond(0, 4), (x, what) -> x.told(3, what)));
        e.promise(5, "-5: no such CELL, HOUR.", t -> {
            t.refusedFor(-5, Scenes.NO_CELLS, (x, c) -> x.told(c, 0));
            t.refusedFor(-5, Scenes.NO_CELLS, (x, c) -> x.told(c, 1));
            for (int what = 2; what < 5; what++) {
                int as = what;
                t.refusedFor(-5, Scenes.NO_HOURS, (x, h) -> x.told(h, as));
                t.refused(-5, x -> x.told(99, as));
            }
            // 12 is no HOUR, but a CELL
            t.is(new AnchorThatDrags().told(12, 0), 5);
            t.is(new AnchorThatDrags().told(12, 1), 0);
        });
        e.promise(5, "-7: what; -5: no such CELL, HOUR.", t -> {
            t.refused(-7, x -> x.told(100, 5));
            t.refused(-7, x -> x.told(-1, -1));
        });
    }

    private static void count(Edges e) {
        e.promise(6, "0 NOW, 1 BOATS, 2 TEXTS, 3 THE LAW, 4 bytes of THE TAPE.", t -> {
            int[] empty = {0, 0, 1, 0, 0};
            int[] full = {11, 6, 6, 5, 160};
            AnchorThatDrags x = new AnchorThatDrags();
            AnchorThatDrags y = new AnchorThatDrags();
            Scenes.FULL.on(y);
            for (int what = 0; what < 5; what++) {
                t.is(x.count(what), empty[what]);
                t.is(y.count(what), full[what]);
            }
        });
        e.promise(6, "BAD.", t -> {
            t.refusedFor(-2, Scenes.beyond(0, 4), (x, what) -> x.count(what));
            t.refusedFor(-2, Scenes.FULL, Scenes.beyond(0, 4), (x, what) -> x.count(what));
        });
    }
}
