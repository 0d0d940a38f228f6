/** The terms of hours and nights, promises 15 to 19. */
final class NightEdges {
    private static final int[] STEP_Y = {1, 1, 0, -1, -1, -1, 0, 1};
    private static final int[] STEP_X = {0, 1, 1, 1, 0, -1, -1, -1};

    private NightEdges() {
    }

    static void all(Edges e) {
        hours(e);
        meetings(e);
        nights(e);
        night(e);
        fleet(e);
        hit(e);
        wake(e);
        goOn(e);
    }

    private static void hours(Edges e) {
        e.terms("each BOAT by numbers whose anchor isn't gone:", t -> {
            AnchorThatDrags x = new AnchorThatDrags();
            x.boat(0, 900, 94, 5);
            x.boat(4, 900, 94, 5);
            x.blow(1, 0, 4);
            // gone in HOUR 0: it drags no more, neither pulled nor breaking out
            t.is(x.night(12, 0, 1), 1);
            t.is(x.night(12, 1, 1), 1);
            t.is(x.goOn(1), 1);
            for (int i = 0; i < 2; i++) {
                t.is(x.night(11, i, 0), -1);
                t.is(x.night(11, i, 1), 0);
                t.is(x.night(11, i, 2), -1);
            }
            t.is(x.fleet(11, 0), -1);
            t.is(x.fleet(11, 2), 0);
            t.is(x.goOn(10), 11);
            t.is(x.boatTold(0, 4), -1);
        });
        e.terms("if it BREAKS OUT, or PULL is above POWER and it DRAGS,", t -> {
            // PULL 60, POWER 59, 60, 61
            int[] more = {1, 0, 0};
            for (int k = 0; k < 3; k++) {
                AnchorThatDrags x = Scenes.under("pull 60;hold " + (59 + k) + ";jerk 0;");
                x.boat(0, 0, 44, 15);
                x.boat(2, 0, 44, 15);
                t.is(x.night(1, 0, 1), more[k]);
                // above, but it does not drag in HOUR 0
                t.is(x.night(1, 1, 1), 0);
                t.is(x.night(2, 1, 1), more[k]);
            }
            // it breaks out, though nothing pulls; both at once are one cell
            AnchorThatDrags y = Scenes.under("pull wind;hold 50;jerk 0;");
            y.boat(4, 0, 44, 15);
            y.blow(1, 0, 4);
            y.blow(1, 1, 0);
            y.blow(2, 0, 4);
            y.blow(3, 0, 0);
            y.blow(3, 1, 99);
            t.is(y.night(2, 0, 0), 34);
            t.is(y.night(2, 0, 1), 1);
            t.is(y.night(3, 0, 0), 34);
            t.is(y.night(4, 0, 0), 44);
            t.is(y.night(4, 0, 1), 2);
        });
        e.terms("its anchor is one CELL further by the WAY (gone, out of THE BAY); it has DRAGGED.", t -> {
            AnchorThatDrags x = new AnchorThatDrags();
            x.boat(0, 900, 0, 5);
            for (int c = 0; c < 100; c++) {
                t.isNot(x.let(0, 0, c), -7);
                // seven calls for each way would be more than 512
                AnchorThatDrags y = new AnchorThatDrags();
                y.boat(0, 900, c, 5);
                for (int way = 0; way < 8; way++) {
                    y.blow(0, 0, way);
                    int toY = c / 10 + STEP_Y[way];
                    int toX = c % 10 + STEP_X[way];
                    boolean in = toY >= 0 && toY < 10 && toX >= 0 && toX < 10;
                    t.is(y.night(1, 0, 0), in ? 10 * toY + toX : -1);
                    t.is(y.night(1, 0, 1), 1);
                    t.is(y.night(1, 0, 2), 0);
                    t.is(y.fleet(1, 3), in ? 0 : 1);
                }
            }
            // truly, too
            x.let(0, 0, 49);
            x.blow(0, 0, 2);
            t.is(x.goOn(1), 1);
            t.is(x.boatTold(0, 4), -1);
        });
    }

    private static void hit(Edges t, AnchorThatDrags x, int n, int k, int hour, int one, int other) {
        t.is(x.hit(n, k, 0), hour);
        t.is(x.hit(n, k, 1), one);
        t.is(x.hit(n, k, 2), other);
    }

    private static void meetings(Edges e) {
        e.terms("Then, all by where anchors are now, two BOATS that LIE in one CELL MEET (by numbers of the one, then of the other).", t -> {
            // 0 drags to where 1 was, and 1 on to where 2 lies still
            AnchorThatDrags x = new AnchorThatDrags();
            x.boat(0, 900, 34, 5);
            x.boat(0, 900, 44, 5);
            x.boat(0, 0, 54, 5);
            t.is(x.fleet(1, 2), 1);
            hit(t, x, 1, 0, 0, 1, 2);
            // in the next hour 0 comes to where 2 lies, 1 is off again
            t.is(x.fleet(2, 2), 2);
            hit(t, x, 2, 1, 1, 0, 2);
            // all six in one cell: 0 1, 0 2, .. 4 5, each pair once
            AnchorThatDrags y = new AnchorThatDrags();
            for (int i = 0; i < 6; i++) {
                y.boat(0, 0, 44, 5);
            }
            t.is(y.fleet(1, 2), 15);
            int k = 0;
            for (int one = 0; one < 6; one++) {
                for (int other = one + 1; other < 6; other++) {
                    hit(t, y, 1, k, 0, one, other);
                    k++;
                }
            }
            // anchors in one cell, but lying apart: don't meet; anchors apart, lying in one: meet
            AnchorThatDrags z = new AnchorThatDrags();
            z.boat(0, 0, 44, 5);
            z.boat(0, 0, 44, 8);
            z.boat(0, 0, 54, 5);
            t.is(z.fleet(1, 2), 1);
            hit(t, z, 1, 0, 0, 1, 2);
            // gone ones lie nowhere: not in one cell
            AnchorThatDrags w = new AnchorThatDrags();
            w.boat(0, 900, 94, 5);
            w.boat(0, 900, 95, 5);
            t.is(w.fleet(12, 2), 0);
            t.is(w.fleet(12, 3), 2);
        });
    }

    private static void nights(Edges e) {
        e.terms("A NIGHT of n HOURS: NOW, and so on (n 0 .. 12 less NOW).", t -> {
            AnchorThatDrags x = new AnchorThatDrags();
            x.boat(0, 900, 4, 5);
            for (int h = 0; h < 12; h++) {
                x.blow(h, 0, 4);
            }
            x.blow(0, 0, 0);
            x.blow(11, 0, 2);
            x.let(0, 0, 90);
            t.is(x.night(0, 0, 0), 90);
            t.is(x.night(1, 0, 0), -1);
            x.goOn(1);
            x.let(0, 0, 95);
            t.is(x.night(0, 0, 0), 95);
            t.is(x.night(1, 0, 0), 85);
            t.is(x.night(9, 0, 0), 5);
            t.is(x.night(10, 0, 0), -1);
            x.goOn(10);
            x.let(0, 0, 95);
            t.is(x.night(0, 0, 0), 95);
            t.is(x.night(1, 0, 0), 96);
            t.is(x.night(2, 0, 0), -7);
            t.nights(-7, (y, n) -> y.night(n, 0, 0));
            t.nights(-2, (y, n) -> y.fleet(n, 2));
        });
    }

    private static void night(Edges e) {
        e.promise(15, "0 THE CELL (-1: gone),", t -> {
            AnchorThatDrags x = new AnchorThatDrags();
            x.boat(0, 900, 84, 5);
            t.is(x.night(0, 0, 0), 84);
            t.is(x.night(1, 0, 0), 94);
            t.is(x.night(2, 0, 0), -1);
            t.is(x.night(12, 0, 0), -1);
            x.goOn(2);
            t.is(x.night(0, 0, 0), -1);
            t.is(x.night(10, 0, 0), -1);
            x.let(0, 0, 0);
            t.is(x.night(0, 0, 0), 0);
        });
        e.promise(15, "1 how often it has DRAGGED,", t -> {
            AnchorThatDrags x = new AnchorThatDrags();
            x.boat(0, 900, 4, 5);
            x.boat(0, 0, 4, 5);
            for (int n = 0; n <= 12; n++) {
                // out of the bay by the tenth, which counts
                t.is(x.night(n, 0, 1), Math.min(n, 10));
                t.is(x.night(n, 1, 1), 0);
            }
            x.let(0, 0, 0);
            for (int h = 0; h < 12; h++) {
                x.blow(h, 0, h % 2 == 0 ? 0 : 4);
            }
            t.is(x.night(12, 0, 1), 12);
        });
        e.promise(15, "2 the HOUR in which first (-1),", t -> {
            AnchorThatDrags x = new AnchorThatDrags();
            x.boat(0, 100, 4, 15);
            t.is(x.night(12, 0, 2), -1);
            x.blow(11, 1, 61);
            t.is(x.night(11, 0, 2), -1);
            t.is(x.night(12, 0, 2), 11);
            x.blow(3, 1, 61);
            t.is(x.night(12, 0, 2), 3);
            x.blow(0, 1, 61);
            t.is(x.night(1, 0, 2), 0);
            t.is(x.night(0, 0, 2), -1);
            // the hour's own number, though it is NOW
            x.goOn(3);
            t.is(x.night(1, 0, 2), 3);
            x.goOn(1);
            t.is(x.night(8, 0, 2), 11);
            t.is(x.night(7, 0, 2), -1);
        });
        e.promise(15, "3 the CELL in which it LIES in the last of them (-1: gone, n is 0).", t -> {
            AnchorThatDrags x = new AnchorThatDrags();
            x.boat(0, 0, 44, 8);
            x.boat(0, 900, 84, 40);
            t.is(x.night(0, 0, 3), -1);
            t.is(x.night(1, 0, 3), 54);
            t.is(x.night(12, 0, 3), 54);
            x.blow(11, 0, 4);
            t.is(x.night(12, 0, 3), 34);
            t.is(x.night(0, 1, 3), -1);
            t.is(x.night(1, 1, 3), 94);
            t.is(x.night(2, 1, 3), -1);
            t.is(x.night(12, 1, 3), -1);
            x.goOn(2);
            t.is(x.night(0, 1, 3), -1);
            t.is(x.night(1, 1, 3), -1);
            t.is(x.night(0, 0, 3), -1);
            t.is(x.night(1, 0, 3), 54);
        });
        e.promise(15, "-5: no such BOAT;", t -> {
            for (int what = 0; what < 4; what++) {
                int as = what;
                t.refusedFor(-5, Scenes.NO_BOATS, (x, i) -> x.night(1, i, as));
                t.refusedFor(-5, Scenes.NO_BOATS, (x, i) -> x.night(0, i, as));
            }
        });
        e.promise(15, "-7: n, what.", t -> {
            for (int what = 0; what < 4; what++) {
                int as = what;
                t.nights(-7, (x, n) -> x.night(n, 0, as));
                t.refusedFor(-7, Scenes.NO_NIGHTS, (x, n) -> x.night(n, 0, as));
                t.refusedFor(-7, Scenes.NO_NIGHTS, (x, n) -> x.night(n, Scenes.GONE, as));
            }
            t.refusedFor(-7, Scenes.beyond(0, 3), (x, what) -> x.night(1, 0, what));
            t.refusedFor(-7, Scenes.beyond(0, 3), (x, what) -> x.night(0, 0, what));
        });
        e.promise(15, "-5: no such BOAT; -7: n, what.", t -> {
            t.refused(-5, x -> x.night(11, 4, 4));
            t.refused(-5, x -> x.night(-1, -1, -1));
        });
    }

    private static void fleet(Edges e) {
        e.promise(16, "what 0 the BOAT that has DRAGGED first (of those in one HOUR the least; -1)", t -> {
            AnchorThatDrags x = new AnchorThatDrags();
            t.is(x.fleet(12, 0), -1);
            x.boat(0, 0, 0, 5);
            t.is(x.fleet(12, 0), -1);
            x.boat(2, 900, 1, 5);
            x.boat(2, 900, 2, 5);
            t.is(x.fleet(0, 0), -1);
            t.is(x.fleet(1, 0), -1);
            t.is(x.fleet(2, 0), 1);
            // a greater number, but an earlier hour
            x.boat(0, 900, 3, 5);
            x.boat(0, 900, 4, 5);
            t.is(x.fleet(2, 0), 3);
            t.is(x.fleet(1, 0), 3);
            t.is(x.fleet(0, 0), -1);
            x.let(0, 1, 40);
            x.boat(0, 900, 5, 5);
            t.is(x.fleet(12, 0), 3);
        });
        e.promise(16, "1 the HOUR (-1),", t -> {
            AnchorThatDrags x = new AnchorThatDrags();
            t.is(x.fleet(12, 1), -1);
            x.boat(0, 100, 0, 15);
            t.is(x.fleet(12, 1), -1);
            x.blow(11, 1, 99);
            t.is(x.fleet(12, 1), 11);
            t.is(x.fleet(11, 1), -1);
            x.blow(0, 1, 99);
            t.is(x.fleet(12, 1), 0);
            t.is(x.fleet(0, 1), -1);
            x.goOn(11);
            t.is(x.fleet(1, 1), 11);
            t.is(x.fleet(0, 1), -1);
        });
        e.promise(16, "2 how often two MEET,", t -> {
            AnchorThatDrags x = new AnchorThatDrags();
            t.is(x.fleet(12, 2), 0);
            x.boat(0, 0, 44, 5);
            t.is(x.fleet(12, 2), 0);
            x.boat(0, 0, 45, 5);
            t.is(x.fleet(12, 2), 0);
            x.let(1, 0, 44);
            t.is(x.fleet(0, 2), 0);
            t.is(x.fleet(1, 2), 1);
            t.is(x.fleet(12, 2), 12);
            for (int i = 2; i < 6; i++) {
                x.boat(0, 0, 44, 5);
            }
            // the most: 15 pairs in 12 hours
            t.is(x.fleet(12, 2), 180);
            x.goOn(11);
            t.is(x.fleet(1, 2), 15);
            t.is(x.fleet(0, 2), 0);
        });
        e.promise(16, "3 how many are gone that aren't NOW.", t -> {
            AnchorThatDrags x = new AnchorThatDrags();
            t.is(x.fleet(12, 3), 0);
            for (int i = 0; i < 6; i++) {
                x.boat(0, 900, 40 + i, 5);
            }
            t.is(x.fleet(5, 3), 0);
            t.is(x.fleet(6, 3), 6);
            t.is(x.fleet(12, 3), 6);
            t.is(x.fleet(0, 3), 0);
            x.let(5, 0, 95);
            t.is(x.fleet(1, 3), 1);
            x.goOn(1);
            t.is(x.fleet(0, 3), 0);
            t.is(x.fleet(4, 3), 0);
            t.is(x.fleet(5, 3), 5);
            x.goOn(5);
            t.is(x.fleet(6, 3), 0);
        });
        e.promise(16, "BAD.", t -> {
            for (int what = 0; what < 4; what++) {
                int as = what;
                t.nights(-2, (x, n) -> x.fleet(n, as));
                t.refusedFor(-2, Scenes.NO_NIGHTS, (x, n) -> x.fleet(n, as));
                t.refusedFor(-2, Scenes.NEW, Scenes.beyond(0, 12), (x, n) -> x.fleet(n, as));
            }
            t.refusedFor(-2, Scenes.beyond(0, 3), (x, what) -> x.fleet(0, what));
            t.refusedFor(-2, Scenes.beyond(0, 3), (x, what) -> x.fleet(1, what));
        });
    }

    private static void hit(Edges e) {
        e.promise(17, "Of MEETING k (from 0 on) in n HOURS what 0 the HOUR, 1 the one BOAT, 2 the other one (greater).", t -> {
            AnchorThatDrags x = new AnchorThatDrags();
            x.boat(0, 0, 44, 5);
            x.boat(0, 0, 0, 5);
            x.boat(0, 0, 44, 5);
            for (int h = 0; h < 12; h++) {
                hit(t, x, 12, h, h, 0, 2);
                hit(t, x, h + 1, h, h, 0, 2);
            }
            x.goOn(11);
            hit(t, x, 1, 0, 11, 0, 2);
            x.let(1, 0, 44);
            hit(t, x, 1, 0, 11, 0, 1);
            hit(t, x, 1, 1, 11, 0, 2);
            hit(t, x, 1, 2, 11, 1, 2);
        });
        e.promise(17, "BAD: n, what;", t -> {
            for (int what = 0; what < 3; what++) {
                int as = what;
                t.nights(-2, (x, n) -> x.hit(n, 0, as));
                t.refusedFor(-2, Scenes.NO_NIGHTS, (x, n) -> x.hit(n, 0, as));
            }
            t.refusedFor(-2, Scenes.beyond(0, 2), (x, what) -> x.hit(1, 0, what));
        });
        e.promise(17, "NONE: there is no such one.", t -> {
            Edges.Scene two = x -> {
                x.boat(0, 0, 44, 5);
                x.boat(0, 0, 44, 5);
            };
            int[] noneOf12 = {-1, 12, 13, 180, Integer.MIN_VALUE, Integer.MAX_VALUE};
            int[] noneOf1 = {-1, 1, 2, 179, Integer.MIN_VALUE, Integer.MAX_VALUE};
            int[] noneOf0 = {-1, 0, 1, Integer.MIN_VALUE, Integer.MAX_VALUE};
            for (int what = 0; what < 3; what++) {
                int as = what;
                t.refusedFor(-1, two, noneOf12, (x, k) -> x.hit(12, k, as));
                t.refusedFor(-1, two, noneOf1, (x, k) -> x.hit(1, k, as));
                t.refusedFor(-1, two, noneOf0, (x, k) -> x.hit(0, k, as));
                t.refusedFor(-1, Scenes.NEW, noneOf0, (x, k) -> x.hit(12, k, as));
            }
            // beyond the most of all: 180
            Edges.Scene six = x -> {
                for (int i = 0; i < 6; i++) {
                    x.boat(0, 0, 44, 5);
                }
            };
            t.refused(-1, six, x -> x.hit(12, 180, 0));
            AnchorThatDrags x = new AnchorThatDrags();
            six.on(x);
            hit(t, x, 12, 179, 11, 4, 5);
            // of fewer hours what those of more have left is none
            t.is(x.hit(1, 15, 0), -1);
            hit(t, x, 1, 14, 0, 4, 5);
        });
        e.promise(17, "BAD: n, what; NONE: there is no such one.", t -> {
            t.refused(-2, Scenes.NEW, x -> x.hit(13, 0, 0));
            t.refused(-2, Scenes.NEW, x -> x.hit(12, -1, 3));
            t.refused(-2, Scenes.NEW, x -> x.hit(0, 0, -1));
        });
    }

    private static void wake(Edges e) {
        e.promise(18, "Of the two that MEET first in n HOURS the one that has DRAGGED more often in them, of like ones the lesser;", t -> {
            // both not at all
            AnchorThatDrags x = new AnchorThatDrags();
            x.boat(0, 0, 0, 5);
            x.boat(0, 0, 44, 5);
            x.boat(0, 0, 44, 5);
            t.is(x.wake(1), 1);
            t.is(x.wake(12), 1);
            // both once
            AnchorThatDrags y = new AnchorThatDrags();
            y.boat(0, 900, 34, 5);
            y.boat(0, 900, 34, 5);
            t.is(y.wake(1), 0);
            // the greater, then the lesser more often
            AnchorThatDrags z = new AnchorThatDrags();
            z.boat(0, 0, 44, 5);
            z.boat(0, 900, 34, 5);
            t.is(z.wake(1), 1);
            AnchorThatDrags lesser = new AnchorThatDrags();
            lesser.boat(0, 900, 34, 5);
            lesser.boat(0, 0, 44, 5);
            t.is(lesser.wake(1), 0);
            t.is(lesser.wake(12), 0);
            // like ones when they meet, but not in all the n hours
            AnchorThatDrags v = new AnchorThatDrags();
            v.boat(0, 0, 44, 5);
            v.boat(0, 100, 44, 15);
            v.let(1, 1, 5);
            v.blow(0, 1, 20);
            v.blow(11, 1, 0);
            for (int h = 0; h < 11; h++) {
                v.blow(h, 1, 0);
            }
            v.blow(11, 1, 99);
            t.is(v.wake(11), 0);
            t.is(v.wake(12), 1);
            // of two meetings in one hour that of the lesser numbers is first
            AnchorThatDrags u = new AnchorThatDrags();
            u.boat(0, 0, 11, 5);
            u.boat(0, 0, 11, 5);
            u.boat(0, 0, 44, 5);
            u.boat(0, 900, 34, 5);
            t.is(u.wake(1), 0);
            u.let(1, 0, 12);
            t.is(u.wake(1), 3);
            for (int hour = 0; hour < 12; hour++) {
                wakeIn(t, hour);
            }
        });
        e.promise(18, "-1: none MEET.", t -> {
            AnchorThatDrags x = new AnchorThatDrags();
            t.is(x.wake(0), -1);
            t.is(x.wake(12), -1);
            x.boat(0, 900, 44, 5);
            t.is(x.wake(12), -1);
            x.boat(0, 900, 44, 5);
            t.is(x.wake(0), -1);
            t.is(x.wake(1), 0);
            x.let(1, 0, 45);
            t.is(x.wake(12), -1);
            // both gone in one hour
            x.let(0, 0, 94);
            x.let(1, 0, 94);
            t.is(x.wake(12), -1);
        });
        e.promise(18, "BAD.", t -> {
            t.nights(-2, AnchorThatDrags::wake);
            t.refusedFor(-2, Scenes.NO_NIGHTS, AnchorThatDrags::wake);
            // ahead of a -1
            t.refusedFor(-2, Scenes.NEW, Scenes.beyond(0, 12), AnchorThatDrags::wake);
        });
    }

    /** The first meeting of all is in the hour, and of the greatest numbers. */
    private static void wakeIn(Edges t, int hour) {
        AnchorThatDrags x = new AnchorThatDrags();
        for (int i = 0; i < 4; i++) {
            x.boat(0, 0, i, 5);
        }
        x.boat(0, 0, 44, 5);
        x.boat(0, 100, 34, 5);
        for (int h = 0; h < 12; h++) {
            x.blow(h, 1, h == hour ? 99 : 0);
        }
        t.is(x.wake(hour), -1);
        t.is(x.wake(hour + 1), 5);
        t.is(x.wake(12), 5);
        x.let(5, 0, 44);
        t.is(x.wake(1), hour == 0 ? -1 : 4);
        t.is(x.wake(hour), hour == 0 ? -1 : 4);
    }

    private static void goOn(Edges e) {
        e.promise(19, "n HOURS truly pass: NOW.", t -> {
            AnchorThatDrags x = new AnchorThatDrags();
            t.is(x.goOn(0), 0);
            t.is(x.goOn(11), 11);
            t.is(x.goOn(0), 11);
            t.is(x.count(0), 11);
            t.unchanged(Scenes.BUSY, y -> y.goOn(0));
            // anchors are where the night says, boat by boat; one gone stays gone
            AnchorThatDrags y = new AnchorThatDrags();
            y.boat(0, 900, 74, 5);
            y.boat(2, 900, 4, 5);
            y.boat(0, 0, 99, 5);
            t.is(y.goOn(1), 1);
            t.is(y.boatTold(0, 4), 84);
            t.is(y.boatTold(1, 4), 4);
            t.is(y.goOn(2), 3);
            t.is(y.boatTold(0, 4), -1);
            t.is(y.boatTold(1, 4), 14);
            t.is(y.boatTold(2, 4), 99);
            t.is(y.goOn(8), 11);
            t.is(y.boatTold(0, 4), -1);
            t.is(y.boatTold(1, 4), 54);
            t.is(y.boatTold(2, 4), 99);
            t.is(y.count(1), 3);
            t.is(y.boatTold(1, 5), 5);
        });
        e.promise(19, "BAD: n; there would be no HOUR any more.", t -> {
            t.refusedFor(-2, Scenes.NEW, Scenes.beyond(0, 11), AnchorThatDrags::goOn);
            // NOW is 2
            t.refusedFor(-2, Scenes.BUSY, new int[] {-1, -2, -3, 10, 11, 12, Integer.MIN_VALUE, Integer.MAX_VALUE}, AnchorThatDrags::goOn);
            t.refusedFor(-2, Scenes.FULL, new int[] {-1, -11, 1, 2, 12, Integer.MIN_VALUE, Integer.MAX_VALUE}, AnchorThatDrags::goOn);
            AnchorThatDrags x = new AnchorThatDrags();
            t.is(x.goOn(2), 2);
            t.is(x.goOn(10), -2);
            t.is(x.goOn(9), 11);
            t.is(x.goOn(1), -2);
            t.is(x.goOn(Integer.MAX_VALUE - 10), -2);
            t.is(x.count(0), 11);
        });
    }
}
