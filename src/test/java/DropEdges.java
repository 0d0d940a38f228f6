/** The terms of rings, promises 20 to 27: how much out, where to drop, rings, alarms, marks. */
final class DropEdges {
    private DropEdges() {
    }

    static void all(Edges e) {
        veer(e);
        drop(e);
        rings(e);
        late(e);
        alarm(e);
        size(e);
        line(e);
        marks(e);
    }

    private static void veer(Edges e) {
        e.promise(20, "The least OUT (1 .. 40) with which a BOAT wouldn't have DRAGGED in n HOURS;", t -> {
            // hold is as much as OUT
            for (int pull : new int[] {0, 1, 2, 39, 40}) {
                AnchorThatDrags x = Scenes.under("pull " + pull + ";hold out;jerk 0;");
                x.boat(0, 0, 44, 7);
                x.sound(44, 0, 0);
                t.is(x.veer(0, 12), Math.max(1, pull));
                t.is(x.veer(0, 0), 1);
                t.is(x.boatTold(0, 5), 7);
            }
            // 60 times OUT by 15 isn't below 20 from 5 on: as it holds then, and not by one less
            AnchorThatDrags y = new AnchorThatDrags();
            y.boat(0, 100, 44, 40);
            t.is(y.veer(0, 12), 5);
            y.let(0, 1, 5);
            t.is(y.night(12, 0, 1), 0);
            y.let(0, 1, 4);
            t.is(y.night(12, 0, 1), 12 - 6);
            // the last of the hours counts, none behind it
            y.blow(11, 1, 60);
            t.is(y.veer(0, 11), 5);
            t.is(y.veer(0, 12), 15);
            y.goOn(11);
            y.let(0, 0, 44);
            t.is(y.veer(0, 1), 15);
            t.is(y.veer(0, 0), 1);
        });
        e.promise(20, "-1: none.", t -> {
            AnchorThatDrags x = Scenes.under("pull 41;hold out;jerk 0;");
            x.boat(0, 0, 44, 40);
            x.sound(44, 0, 0);
            t.is(x.veer(0, 1), -1);
            t.is(x.veer(0, 12), -1);
            t.is(x.veer(0, 0), 1);
            // one that breaks out
            AnchorThatDrags y = new AnchorThatDrags();
            y.boat(4, 0, 44, 40);
            y.blow(1, 0, 1);
            t.is(y.veer(0, 1), 1);
            t.is(y.veer(0, 2), -1);
        });
        e.promise(20, "-5: no such BOAT;", t -> t.refusedFor(-5, Scenes.NO_BOATS, (x, i) -> x.veer(i, 1)));
        e.promise(20, "-7: n;", t -> {
            t.nights(-7, (x, n) -> x.veer(0, n));
            t.refusedFor(-7, Scenes.NO_NIGHTS, (x, n) -> x.veer(0, n));
        });
        e.promise(20, "STATE: it is gone.", t -> {
            t.refused(-3, x -> x.veer(Scenes.GONE, 0));
            t.refused(-3, x -> x.veer(Scenes.GONE, 10));
        });
        e.promise(20, "-5: no such BOAT; -7: n; STATE: it is gone.", t -> {
            t.refused(-5, x -> x.veer(4, 11));
            t.refused(-7, x -> x.veer(Scenes.GONE, 11));
        });
    }

    private static void drop(Edges e) {
        e.promise(21, "CELLS (BED not 3) with which as THE CELL a BOAT (gone or not) would in n HOURS neither have DRAGGED nor MEET any other:", t -> {
            AnchorThatDrags x = new AnchorThatDrags();
            x.boat(0, 0, 44, 5);
            t.is(x.drop(0, 12, 1), 100);
            // rock alone is out, though it holds: PULL is 0
            x.sound(0, 1, 3);
            x.sound(1, 1, 2);
            x.sound(99, 1, 3);
            t.is(x.drop(0, 12, 1), 98);
            t.is(x.drop(0, 12, 0), 1);
            t.is(x.drop(0, 0, 1), 98);
            t.is(x.drop(0, 0, 0), 1);
            // BED of its own cell, too
            x.sound(44, 1, 3);
            t.is(x.drop(0, 12, 1), 97);
            // gone: as by any cell
            AnchorThatDrags y = new AnchorThatDrags();
            y.boat(0, 900, 94, 40);
            y.goOn(1);
            y.blow(1, 1, 0);
            y.blow(2, 1, 20);
            t.is(y.drop(0, 1, 1), 100);
            t.is(y.drop(0, 2, 1), 0);
            t.is(y.boatTold(0, 4), -1);
            // the last hour's meeting counts: the other one comes to 94 in HOUR 11, and is ahead of it elsewhere
            AnchorThatDrags z = new AnchorThatDrags();
            z.boat(0, 0, 0, 5);
            z.boat(0, 100, 84, 15);
            z.let(1, 1, 5);
            for (int h = 0; h < 12; h++) {
                z.blow(h, 1, h == 11 ? 99 : 0);
            }
            t.is(z.drop(0, 11, 1), 99);
            t.is(z.drop(0, 12, 1), 98);
            // any other: the first of them, the last of them
            AnchorThatDrags six = new AnchorThatDrags();
            for (int i = 0; i < 6; i++) {
                six.boat(0, 0, 11 * i, 5);
            }
            for (int i = 0; i < 6; i++) {
                t.is(six.drop(i, 1, 1), 95);
                t.is(six.drop(i, 1, 0), i == 0 ? 0 : 1);
            }
            // one that is gone is met nowhere
            z.let(1, 0, 94);
            t.is(z.drop(0, 11, 1), 99);
            t.is(z.drop(0, 12, 1), 99);
            z.goOn(11);
            z.let(1, 0, 94);
            t.is(z.drop(0, 1, 1), 100);
        });
        e.promise(21, "what 0 the first (-1: none), 1 how many.", t -> {
            AnchorThatDrags x = new AnchorThatDrags();
            x.boat(0, 900, 44, 40);
            t.is(x.drop(0, 1, 0), -1);
            t.is(x.drop(0, 1, 1), 0);
            t.is(x.drop(0, 0, 0), 0);
            t.is(x.drop(0, 0, 1), 100);
            x.chart(0, 99, 1, 3);
            x.chart(9, 91, 1, 3);
            x.chart(90, 19, 1, 3);
            t.is(x.drop(0, 0, 0), 99);
            t.is(x.drop(0, 0, 1), 1);
            x.sound(99, 1, 3);
            t.is(x.drop(0, 0, 0), -1);
            t.is(x.drop(0, 0, 1), 0);
        });
        e.promise(21, "-5: no such BOAT;", t -> {
            t.refusedFor(-5, Scenes.NO_BOATS, (x, i) -> x.drop(i, 1, 0));
            t.refusedFor(-5, Scenes.NO_BOATS, (x, i) -> x.drop(i, 0, 1));
        });
        e.promise(21, "-7: n, what.", t -> {
            t.nights(-7, (x, n) -> x.drop(0, n, 1));
            t.refusedFor(-7, Scenes.NO_NIGHTS, (x, n) -> x.drop(0, n, 0));
            t.refusedFor(-7, Scenes.NO_NIGHTS, (x, n) -> x.drop(Scenes.GONE, n, 0));
            t.refusedFor(-7, Scenes.beyond(0, 1), (x, what) -> x.drop(0, 1, what));
            t.refusedFor(-7, Scenes.beyond(0, 1), (x, what) -> x.drop(0, 0, what));
        });
        e.promise(21, "-5: no such BOAT; -7: n, what.", t -> t.refused(-5, x -> x.drop(4, 11, 2)));
    }

    private static void rings(Edges e) {
        e.terms("RINGS of two BOATS meet, if by a WAY they would LIE in one CELL NOW.", t -> {
            // as of the tide NOW: 40 of DEEP 3 are 7 off, of DEEP 0 8, of DEEP 6 7; 5 of DEEP 0 1 off
            AnchorThatDrags x = new AnchorThatDrags();
            x.boat(0, 0, 44, 5);
            x.boat(0, 0, 54, 4);
            x.sound(44, 0, 3);
            x.sound(54, 0, 3);
            x.blow(11, 2, -3);
            x.blow(11, 0, 3);
            // 5 of DEEP 3: 4, 0 off
            t.is(x.rings(0, 1), 0);
            x.goOn(11);
            // 5 of DEEP 0: 1 off; by WAY 0 alone, whatever the WAY NOW is
            t.is(x.rings(0, 1), 1);
            x.blow(11, 2, 3);
            t.is(x.rings(0, 1), 0);
        });
        e.promise(22, "WAYS (bits) by which the RINGS of two BOATS meet.", t -> {
            AnchorThatDrags x = new AnchorThatDrags();
            x.boat(0, 0, 44, 8);
            x.boat(0, 0, 44, 8);
            t.is(x.rings(0, 1), 255);
            t.is(x.rings(1, 0), 255);
            // 1 off and none off: by the way on which the other one is
            x.let(1, 1, 5);
            int[] on = {54, 55, 45, 35, 34, 33, 43, 53};
            for (int way = 0; way < 8; way++) {
                x.let(1, 0, on[way]);
                t.is(x.rings(0, 1), 1 << way);
                t.is(x.rings(1, 0), 1 << way);
            }
            x.let(1, 0, 46);
            t.is(x.rings(0, 1), 0);
            // the bay's end holds both back
            x.let(0, 0, 99);
            x.let(1, 0, 99);
            t.is(x.rings(0, 1), 1 + 2 + 4 + 8 + 128);
        });
        e.promise(22, "-5: BOATS (alike, too);", t -> {
            t.refusedFor(-5, Scenes.NO_BOATS, (x, i) -> x.rings(i, 0));
            t.refusedFor(-5, Scenes.NO_BOATS, (x, i) -> x.rings(0, i));
            t.refusedFor(-5, Scenes.NO_BOATS, (x, i) -> x.rings(i, i));
            t.refusedFor(-5, new int[] {0, 1, 2, 3}, (x, i) -> x.rings(i, i));
        });
        e.promise(22, "STATE: one is gone.", t -> {
            t.refusedFor(-3, new int[] {0, 1, 3}, (x, i) -> x.rings(i, Scenes.GONE));
            t.refusedFor(-3, new int[] {0, 1, 3}, (x, i) -> x.rings(Scenes.GONE, i));
        });
        e.promise(22, "-5: BOATS (alike, too); STATE: one is gone.", t -> {
            t.refused(-5, x -> x.rings(Scenes.GONE, Scenes.GONE));
            t.refused(-5, x -> x.rings(Scenes.GONE, 4));
            t.refused(-5, x -> x.rings(-1, Scenes.GONE));
        });
    }

    private static void late(Edges e) {
        e.promise(23, "The least BOAT whose RING meets that of one of a lesser number (none of both gone);", t -> {
            AnchorThatDrags x = new AnchorThatDrags();
            x.boat(0, 0, 44, 5);
            x.boat(0, 0, 44, 5);
            t.is(x.late(), 1);
            x.boat(0, 0, 44, 5);
            t.is(x.late(), 1);
            x.let(1, 0, 0);
            t.is(x.late(), 2);
            x.let(0, 0, 99);
            t.is(x.late(), -1);
            // the last with the first
            x.boat(0, 0, 11, 5);
            x.boat(0, 0, 22, 5);
            x.boat(0, 0, 99, 5);
            t.is(x.late(), 5);
            // of 4 with 3 and 5 with 0 the least, though 0 is the lesser one
            x.let(4, 0, 11);
            t.is(x.late(), 4);
            // gone, the one or the other: no ring
            AnchorThatDrags y = new AnchorThatDrags();
            y.boat(0, 900, 94, 5);
            y.boat(0, 0, 94, 5);
            y.boat(0, 900, 94, 5);
            t.is(y.late(), 1);
            y.goOn(1);
            t.is(y.late(), -1);
            y.let(2, 0, 94);
            t.is(y.late(), 2);
        });
        e.promise(23, "-1: none.", t -> {
            AnchorThatDrags x = new AnchorThatDrags();
            t.is(x.late(), -1);
            x.boat(0, 0, 44, 5);
            t.is(x.late(), -1);
            x.boat(0, 0, 45, 5);
            t.is(x.late(), -1);
            x.let(0, 1, 8);
            t.is(x.late(), 1);
        });
    }

    private static void alarm(Edges e) {
        e.promise(24, "The first of n HOURS in which a BOAT LIES further than size (0 .. 10) from THE CELL as it is NOW "
            + "(the greater of x and y apart), or is gone;", t -> {
            AnchorThatDrags x = new AnchorThatDrags();
            x.boat(0, 0, 4, 30);
            // 5 off
            t.is(x.alarm(0, 12, 5), -1);
            t.is(x.alarm(0, 12, 4), 0);
            t.is(x.alarm(0, 12, 0), 0);
            t.is(x.alarm(0, 12, 10), -1);
            // by x as by y; by both the greater
            AnchorThatDrags z = new AnchorThatDrags();
            z.boat(0, 0, 55, 30);
            for (int way = 0; way < 8; way++) {
                z.blow(0, 0, way);
                // the bay ends 4 off by greater y or x
                int apart = way >= 4 && way <= 6 ? 5 : 4;
                t.is(z.alarm(0, 1, apart), -1);
                t.is(z.alarm(0, 1, apart - 1), 0);
            }
            // 0 off is not further than 0; the last of the hours counts, none behind it
            x.let(0, 1, 5);
            t.is(x.alarm(0, 12, 0), -1);
            AnchorThatDrags y = new AnchorThatDrags();
            y.boat(0, 100, 4, 15);
            y.let(0, 1, 7);
            y.blow(11, 1, 99);
            t.is(y.alarm(0, 11, 0), -1);
            t.is(y.alarm(0, 12, 0), 11);
            t.is(y.alarm(0, 12, 1), -1);
            // gone: further than any size
            y.let(0, 0, 94);
            t.is(y.alarm(0, 12, 10), 11);
            t.is(y.alarm(0, 11, 10), -1);
            // NOW: from where its anchor is by then
            AnchorThatDrags w = new AnchorThatDrags();
            w.boat(0, 900, 4, 5);
            t.is(w.alarm(0, 3, 2), 2);
            w.goOn(2);
            t.is(w.alarm(0, 3, 2), 4);
            t.is(w.alarm(0, 3, 0), 2);
        });
        e.promise(24, "-1: none.", t -> {
            AnchorThatDrags x = new AnchorThatDrags();
            x.boat(0, 900, 94, 40);
            t.is(x.alarm(0, 0, 0), -1);
            t.is(x.alarm(0, 1, 10), 0);
            x.let(0, 0, 84);
            t.is(x.alarm(0, 1, 1), -1);
            t.is(x.alarm(0, 2, 1), 1);
        });
        e.promise(24, "-5: no such BOAT;", t -> t.refusedFor(-5, Scenes.NO_BOATS, (x, i) -> x.alarm(i, 1, 1)));
        e.promise(24, "-7: n, size;", t -> {
            t.nights(-7, (x, n) -> x.alarm(0, n, 0));
            t.refusedFor(-7, Scenes.NO_NIGHTS, (x, n) -> x.alarm(0, n, 10));
            t.refusedFor(-7, Scenes.beyond(0, 10), (x, size) -> x.alarm(0, 1, size));
            t.refusedFor(-7, Scenes.beyond(0, 10), (x, size) -> x.alarm(0, 0, size));
        });
        e.promise(24, "STATE: it is gone.", t -> {
            t.refused(-3, x -> x.alarm(Scenes.GONE, 1, 1));
            t.refused(-3, x -> x.alarm(Scenes.GONE, 0, 0));
        });
        e.promise(24, "-5: no such BOAT; -7: n, size; STATE: it is gone.", t -> {
            t.refused(-5, x -> x.alarm(4, 11, 11));
            t.refused(-7, x -> x.alarm(Scenes.GONE, 11, 1));
            t.refused(-7, x -> x.alarm(Scenes.GONE, 1, 11));
        });
    }

    private static void size(Edges e) {
        e.promise(25, "The least size (0 and more) by which there is no alarm() ahead of the HOUR in which it first has DRAGGED "
            + "(none at all, if it hasn't) (what 0);", t -> {
            // 5 off till it drags in HOUR 5, the wind's way then being another
            AnchorThatDrags x = new AnchorThatDrags();
            x.boat(0, 100, 4, 30);
            t.is(x.size(0, 12, 0), 5);
            t.is(x.alarm(0, 12, 5), -1);
            t.is(x.alarm(0, 12, 4), 0);
            x.blow(5, 1, 99);
            t.is(x.size(0, 12, 0), 5);
            t.is(x.alarm(0, 12, 5), 5);
            t.is(x.size(0, 5, 0), 5);
            // it drags at once: nothing is ahead, so 0 is enough
            x.blow(0, 1, 99);
            t.is(x.size(0, 12, 0), 0);
            // 0 off all the night; no hours at all
            x.blow(0, 1, 20);
            x.blow(5, 1, 20);
            x.let(0, 1, 5);
            t.is(x.size(0, 12, 0), 0);
            x.let(0, 1, 30);
            t.is(x.size(0, 0, 0), 0);
            // the most that a bay leaves: 8 off
            x.sound(4, 0, 0);
            x.let(0, 1, 40);
            t.is(x.size(0, 12, 0), 8);
            // what it lies off behind that hour does not count, nor in it
            AnchorThatDrags y = new AnchorThatDrags();
            y.boat(0, 100, 4, 15);
            y.blow(3, 1, 99);
            y.blow(4, 2, -3);
            y.blow(3, 2, -3);
            t.is(y.size(0, 12, 0), 2);
            t.is(y.size(0, 4, 0), 2);
            t.is(y.size(0, 3, 0), 2);
        });
        e.promise(25, "how many HOURS behind that alarm() is with it (1; -1: it hasn't DRAGGED, there is none).", t -> {
            AnchorThatDrags x = new AnchorThatDrags();
            x.boat(0, 100, 4, 15);
            // not dragged
            t.is(x.size(0, 12, 1), -1);
            t.is(x.size(0, 0, 1), -1);
            // in the same hour: one cell further
            x.blow(5, 1, 99);
            t.is(x.size(0, 12, 1), 0);
            t.is(x.size(0, 6, 1), 0);
            t.is(x.size(0, 5, 1), -1);
            x.blow(0, 1, 99);
            t.is(x.size(0, 12, 1), 0);
            // dragged to where it lies no further than before, as the bay ends there: none
            AnchorThatDrags z = new AnchorThatDrags();
            z.boat(0, 100, 74, 40);
            z.blow(1, 1, 99);
            t.is(z.size(0, 12, 0), 2);
            t.is(z.night(12, 0, 1), 1);
            t.is(z.size(0, 12, 1), -1);
            // it goes on in HOUR 3 and 4: gone by 4, which is an alarm 3 hours behind
            z.blow(3, 1, 99);
            z.blow(4, 1, 99);
            t.is(z.size(0, 4, 1), -1);
            t.is(z.size(0, 5, 1), 3);
        });
        e.promise(25, "-5: no such BOAT;", t -> {
            t.refusedFor(-5, Scenes.NO_BOATS, (x, i) -> x.size(i, 1, 0));
            t.refusedFor(-5, Scenes.NO_BOATS, (x, i) -> x.size(i, 0, 1));
        });
        e.promise(25, "-7: n, what;", t -> {
            t.nights(-7, (x, n) -> x.size(0, n, 0));
            t.nights(-7, (x, n) -> x.size(0, n, 1));
            t.refusedFor(-7, Scenes.NO_NIGHTS, (x, n) -> x.size(0, n, 0));
            t.refusedFor(-7, Scenes.beyond(0, 1), (x, what) -> x.size(0, 1, what));
            t.refusedFor(-7, Scenes.beyond(0, 1), (x, what) -> x.size(0, 0, what));
        });
        e.promise(25, "STATE: it is gone.", t -> {
            t.refused(-3, x -> x.size(Scenes.GONE, 1, 0));
            t.refused(-3, x -> x.size(Scenes.GONE, 0, 1));
        });
        e.promise(25, "-5: no such BOAT; -7: n, what; STATE: it is gone.", t -> {
            t.refused(-5, x -> x.size(4, 11, 2));
            t.refused(-7, x -> x.size(Scenes.GONE, 11, 0));
            t.refused(-7, x -> x.size(Scenes.GONE, 0, 2));
        });
    }

    private static void line(Edges e) {
        e.promise(26, "(x of b less that of a) times (y of c less that of a), less (y of b less that of a) times (x of c less that of a).", t -> {
            AnchorThatDrags x = new AnchorThatDrags();
            // the most and the least, across the bay
            t.is(x.line(0, 9, 99), 81);
            t.is(x.line(0, 9, 90), 81);
            t.is(x.line(0, 90, 9), -81);
            t.is(x.line(99, 0, 9), 81);
            t.is(x.line(0, 1, 10), 1);
            t.is(x.line(0, 10, 1), -1);
            // in line: 0, also of c as a or b
            t.is(x.line(0, 99, 55), 0);
            t.is(x.line(0, 99, 0), 0);
            t.is(x.line(0, 99, 99), 0);
            t.is(x.line(44, 45, 40), 0);
            t.is(x.line(99, 98, 99), 0);
        });
        e.promise(26, "-1000000: no such CELLS, a is b.", t -> {
            t.refusedFor(-1000000, Scenes.NO_CELLS, (x, c) -> x.line(c, 1, 2));
            t.refusedFor(-1000000, Scenes.NO_CELLS, (x, c) -> x.line(1, c, 2));
            t.refusedFor(-1000000, Scenes.NO_CELLS, (x, c) -> x.line(1, 2, c));
            t.refusedFor(-1000000, Scenes.NO_CELLS, (x, c) -> x.line(c, c, c));
            t.refusedFor(-1000000, new int[] {0, 44, 99}, (x, c) -> x.line(c, c, 50));
            t.refusedFor(-1000000, new int[] {0, 44, 99}, (x, c) -> x.line(c, c, c));
        });
    }

    private static void marks(Edges e) {
        e.promise(27, "The first of n HOURS in which that, of two marks (100 times a, and b) and the CELL in which a BOAT LIES, is by more than "
            + "slip (0 .. 99) otherwise than in the first of them, or it is gone (in the first, too);", t -> {
            // lies in 54, in HOUR 11 in 44; of marks 4 and 5 along a row that is 5, then 4
            AnchorThatDrags x = new AnchorThatDrags();
            x.boat(0, 0, 44, 8);
            x.blow(11, 0, 4);
            x.blow(10, 0, 4);
            t.is(x.marks(0, 12, 405, 0), 10);
            t.is(x.marks(0, 12, 405, 1), 10);
            t.is(x.marks(0, 12, 405, 2), -1);
            t.is(x.marks(0, 11, 405, 0), 10);
            t.is(x.marks(0, 10, 405, 0), -1);
            x.blow(10, 0, 0);
            t.is(x.marks(0, 12, 405, 1), 11);
            // less as well as more: turned
            t.is(x.marks(0, 12, 504, 1), 11);
            t.is(x.marks(0, 12, 504, 2), -1);
            // the least and the greatest marks: from 0 to 99 it is 9 times 5 less 9 times 4, then 9 times 3 less 9 times 4
            t.is(x.marks(0, 12, 99, 17), 11);
            t.is(x.marks(0, 12, 99, 18), -1);
            t.is(x.marks(0, 12, 9900, 17), 11);
            t.is(x.marks(0, 12, 9998, 1), 11);
            t.is(x.marks(0, 12, 9998, 99), -1);
            t.is(x.marks(0, 12, 1, 99), -1);
            // the first is otherwise than itself by nothing
            t.is(x.marks(0, 1, 405, 0), -1);
            // from NOW on
            x.goOn(11);
            t.is(x.marks(0, 1, 405, 0), -1);
            // gone, in the first, too; and by any slip
            AnchorThatDrags y = new AnchorThatDrags();
            y.boat(0, 900, 84, 40);
            t.is(y.marks(0, 12, 405, 99), 1);
            t.is(y.marks(0, 1, 405, 0), -1);
            y.let(0, 0, 94);
            t.is(y.marks(0, 12, 405, 99), 0);
            t.is(y.marks(0, 1, 405, 99), 0);
            // gone ahead of the first
            y.goOn(1);
            t.is(y.marks(0, 11, 405, 99), 1);
            t.is(y.marks(0, 1, 405, 99), 1);
            t.is(y.marks(0, 0, 405, 99), -1);
        });
        e.promise(27, "-1: none.", t -> {
            AnchorThatDrags x = new AnchorThatDrags();
            x.boat(0, 900, 94, 5);
            t.is(x.marks(0, 0, 405, 0), -1);
            x.let(0, 0, 4);
            t.is(x.marks(0, 1, 405, 0), -1);
            t.is(x.marks(0, 2, 405, 1), -1);
            t.is(x.marks(0, 3, 405, 1), 2);
            // along the line it moves by nothing
            t.is(x.marks(0, 9, 414, 0), -1);
            t.is(x.marks(0, 10, 414, 0), 9);
        });
        e.promise(27, "-5: no such BOAT;", t -> t.refusedFor(-5, Scenes.NO_BOATS, (x, i) -> x.marks(i, 1, 405, 0)));
        e.promise(27, "-7: n, two, slip.", t -> {
            t.nights(-7, (x, n) -> x.marks(0, n, 405, 0));
            t.refusedFor(-7, Scenes.NO_NIGHTS, (x, n) -> x.marks(0, n, 405, 0));
            t.refusedFor(-7, Scenes.NO_NIGHTS, (x, n) -> x.marks(Scenes.GONE, n, 405, 0));
            t.refusedFor(-7, Scenes.beyond(0, 9999), (x, two) -> x.marks(0, 1, two, 0));
            // two that are one are no two marks, as line() says
            t.refusedFor(-7, new int[] {0, 101, 4444, 9999}, (x, two) -> x.marks(0, 1, two, 0));
            t.refusedFor(-7, Scenes.beyond(0, 99), (x, slip) -> x.marks(0, 1, 405, slip));
            t.refusedFor(-7, Scenes.beyond(0, 99), (x, slip) -> x.marks(Scenes.GONE, 0, 405, slip));
        });
        e.promise(27, "-5: no such BOAT; -7: n, two, slip.", t -> t.refused(-5, x -> x.marks(4, 11, 10000, 100)));
        e.promise(27, "-1: none. -5: no such BOAT; -7: n, two, slip.", t -> {
            // the refusals of numbers come ahead of the -1
            t.refused(-7, x -> x.marks(0, 0, 10000, 0));
            t.refused(-7, x -> x.marks(0, 0, 405, 100));
        });
    }
}
