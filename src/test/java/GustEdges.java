/** The terms of lots and images, promises 40 to 43. */
final class GustEdges {
    private static final long NO = AnchorThatDrags.NO;
    private static final long MODULUS = 2147483647L;

    private GustEdges() {
    }

    static void all(Edges e) {
        lots(e);
        drawn(e);
        chance(e);
        images(e);
        image(e);
        back(e);
    }

    /** The lot of the hour that is so many hours behind NOW. */
    private static long lot(int seed, int behind) {
        long lot = (seed + 1L) * 48271 % MODULUS;
        for (int k = 0; k < behind; k++) {
            lot = lot * 48271 % MODULUS;
        }
        return lot;
    }

    private static int wind(int seed, int behind, int strong) {
        return Math.max(0, Math.min(99, (int) (lot(seed, behind) % 41) - 20 + strong));
    }

    /** A boat that is pulled as strong as the wind is, and held by so much, goes to and fro. */
    private static AnchorThatDrags held(int hold, int now, int strong) {
        AnchorThatDrags x = Scenes.under("pull wind;hold " + hold + ";jerk 0;");
        for (int h = 0; h < 12; h++) {
            x.blow(h, 0, h % 2 == 0 ? 0 : 4);
            x.blow(h, 1, strong);
        }
        x.goOn(now);
        x.boat(0, 0, 44, 15);
        return x;
    }

    /** How strong the drawn wind is so many hours behind NOW: above as many holds as it is. */
    private static int windOf(int seed, int now, int behind, int strong) {
        int wind = 0;
        for (int hold = 0; hold < 100; hold++) {
            AnchorThatDrags x = held(hold, now, strong);
            wind += x.drawn(seed, behind + 1, 0, 1) - x.drawn(seed, behind, 0, 1);
        }
        return wind;
    }

    private static void lots(Edges e) {
        e.terms("DRAWN by a SEED (0 .. 99999):", t -> {
            t.is(lot(0, 0) % 41, 14);
            t.is(windOf(0, 0, 0, 20), 14);
            t.is(lot(99999, 0), 532132706);
            t.is(windOf(99999, 0, 0, 20), 532132706 % 41);
            t.refusedFor(-7, Scenes.beyond(0, 99999), (x, seed) -> x.drawn(seed, 1, 0, 1));
            t.refusedFor(NO, Scenes.beyond(0, 99999), (x, seed) -> x.chance(0, seed, 101, 0));
        });
        e.terms("LOTS: the first is (SEED and 1) times 48271 modulo 2147483647, each further one the last times 48271 modulo 2147483647.", t -> {
            // as they are known of this sequence
            long[] known = {48271, 182605794, 1291394886, 1914720637, 2078669041, 407355683};
            for (int k = 0; k < known.length; k++) {
                t.is(lot(0, k), known[k]);
            }
            // 44488 times 48271 is below the modulus, 44489 times is above it
            t.is(44488L * 48271, 2147480248L);
            t.is(lot(44487, 0), 2147480248);
            t.is(lot(44488, 0), 2147528519L - MODULUS);
            for (int seed : new int[] {0, 1, 44486, 44487, 44488, 44489, 99998, 99999}) {
                for (int behind = 0; behind < 12; behind++) {
                    t.is(windOf(seed, 0, behind, 20), wind(seed, behind, 20));
                }
            }
        });
        e.terms("For each HOUR from NOW on one: the wind is LOT modulo 41, less 20, more STRONG in it (0 .. 99, else the bound).", t -> {
            // from NOW on, up to HOUR 11
            for (int now : new int[] {0, 1, 6, 11}) {
                t.is(windOf(5, now, 0, 20), wind(5, 0, 20));
                t.is(windOf(5, now, 11 - now, 20), wind(5, 11 - now, 20));
            }
            // LOT modulo 41 of SEED 2 is 1 (144813), of SEED 40 0, of 13 40 less: the bounds of what is more or less
            t.is(lot(40, 0) % 41, 0);
            t.is(windOf(40, 0, 0, 20), 0);
            t.is(windOf(40, 0, 0, 21), 1);
            t.is(windOf(40, 0, 0, 19), 0);
            t.is(windOf(40, 0, 0, 0), 0);
            t.is(windOf(40, 0, 0, 99), 79);
            int most = 0;
            while (lot(most, 0) % 41 != 40) {
                most++;
            }
            t.is(windOf(most, 0, 0, 0), 20);
            t.is(windOf(most, 0, 0, 78), 98);
            t.is(windOf(most, 0, 0, 79), 99);
            t.is(windOf(most, 0, 0, 80), 99);
            t.is(windOf(most, 0, 0, 99), 99);
            // 0 is 0, not less: a law that adds 1 says 1; 99 is no more than 99
            AnchorThatDrags x = Scenes.under("pull wind+1;hold 0;jerk 0;");
            x.boat(0, 0, 44, 15);
            x.blow(0, 1, 0);
            t.is(x.drawn(40, 1, 0, 1), 1);
            x.force(Scenes.text(x, "pull wind;hold 99;jerk 0;"));
            x.blow(0, 1, 99);
            t.is(x.drawn(most, 1, 0, 1), 0);
        });
    }

    private static void drawn(Edges e) {
        e.promise(40, "behind n HOURS of a BOAT what 0 THE CELL (-1: gone), 1 how often it has DRAGGED, 2 the HOUR in which first (-1).", t -> {
            // winds of SEED 0: 14, 35, 10
            AnchorThatDrags x = Scenes.under("pull wind;hold 20;jerk 0;");
            x.boat(0, 0, 84, 15);
            for (int n = 0; n < 3; n++) {
                t.is(x.drawn(0, n, 0, 0), n < 2 ? 84 : 94);
                t.is(x.drawn(0, n, 0, 1), n < 2 ? 0 : 1);
                t.is(x.drawn(0, n, 0, 2), n < 2 ? -1 : 1);
            }
            x.let(0, 0, 94);
            t.is(x.drawn(0, 2, 0, 0), -1);
            t.is(x.drawn(0, 12, 0, 0), -1);
            t.is(x.drawn(0, 12, 0, 1), 1);
            t.is(x.drawn(0, 12, 0, 2), 1);
            // the hour's own number
            x.goOn(10);
            x.let(0, 0, 44);
            t.is(x.drawn(0, 2, 0, 2), 11);
            t.is(x.drawn(0, 1, 0, 2), -1);
            // gone already
            x.blow(10, 1, 99);
            x.let(0, 0, 94);
            x.goOn(1);
            t.is(x.drawn(0, 1, 0, 0), -1);
            t.is(x.drawn(0, 1, 0, 1), 0);
            t.is(x.drawn(0, 1, 0, 2), -1);
            t.is(x.drawn(0, 0, 0, 0), -1);
        });
        e.promise(40, "-5: no such BOAT;", t -> {
            t.refusedFor(-5, Scenes.NO_BOATS, (x, i) -> x.drawn(0, 1, i, 0));
            t.refusedFor(-5, Scenes.NO_BOATS, (x, i) -> x.drawn(0, 0, i, 2));
        });
        e.promise(40, "-7: SEED, n, what.", t -> {
            t.refusedFor(-7, Scenes.beyond(0, 99999), (x, seed) -> x.drawn(seed, 0, 0, 0));
            t.nights(-7, (x, n) -> x.drawn(99999, n, 0, 0));
            t.refusedFor(-7, Scenes.NO_NIGHTS, (x, n) -> x.drawn(0, n, 0, 0));
            t.refusedFor(-7, Scenes.NO_NIGHTS, (x, n) -> x.drawn(0, n, Scenes.GONE, 2));
            t.refusedFor(-7, Scenes.beyond(0, 2), (x, what) -> x.drawn(0, 1, 0, what));
            t.refusedFor(-7, Scenes.beyond(0, 2), (x, what) -> x.drawn(0, 0, 0, what));
        });
        e.promise(40, "-5: no such BOAT; -7: SEED, n, what.", t -> {
            t.refused(-5, x -> x.drawn(100000, 11, 4, 3));
            t.refused(-7, x -> x.drawn(100000, 1, Scenes.GONE, 0));
        });
    }

    private static void chance(Edges t, AnchorThatDrags x, int seed, int how, long above, long below) {
        t.is(x.chance(0, seed, how, 0), above);
        t.is(x.chance(0, seed, how, 1), below);
    }

    private static void chance(Edges e) {
        e.promise(41, "In how many of so many (how by 100: 1 .. 20) seeds, SEED and each 1 more (they may pass 99999), "
            + "a BOAT has not DRAGGED in n HOURS (how modulo 100), DRAWN:", t -> {
            for (int seed : new int[] {0, 44480, 99980, 99981, 99990, 99999}) {
                AnchorThatDrags x = held(20, 0, 20);
                for (int many : new int[] {1, 2, 3, 19, 20}) {
                    int held = 0;
                    for (int k = 0; k < many; k++) {
                        held += wind(seed + k, 0, 20) <= 20 ? 1 : 0;
                    }
                    int by = divisor(held, many);
                    chance(t, x, seed, 100 * many + 1, held / by, many / by);
                    // in none of no hours, in two hours less often
                    chance(t, x, seed, 100 * many, 1, 1);
                    int twice = 0;
                    for (int k = 0; k < many; k++) {
                        twice += wind(seed + k, 0, 20) <= 20 && wind(seed + k, 1, 20) <= 20 ? 1 : 0;
                    }
                    by = divisor(twice, many);
                    chance(t, x, seed, 100 * many + 2, twice / by, many / by);
                }
            }
            // twelve hours, and what is left of them
            AnchorThatDrags y = held(99, 0, 20);
            chance(t, y, 0, 2012, 1, 1);
            y.goOn(11);
            chance(t, y, 99999, 2001, 1, 1);
            // one that is gone does not drag
            AnchorThatDrags z = new AnchorThatDrags();
            z.boat(0, 900, 94, 5);
            z.goOn(1);
            chance(t, z, 0, 2011, 1, 1);
        });
        e.promise(41, "part as of rate().", t -> {
            // winds of SEEDS 0 .. 5: 14, 28, 1, 15, 29, 2
            AnchorThatDrags x = held(20, 0, 20);
            chance(t, x, 0, 101, 1, 1);
            chance(t, x, 1, 101, 0, 1);
            chance(t, x, 0, 201, 1, 2);
            chance(t, x, 0, 401, 3, 4);
            chance(t, x, 0, 601, 2, 3);
            chance(t, held(0, 0, 20), 6, 301, 0, 1);
        });
        e.promise(41, "NO: none such.", t -> {
            t.refusedFor(NO, Scenes.NO_BOATS, (x, i) -> x.chance(i, 0, 101, 0));
            t.refusedFor(NO, Scenes.beyond(0, 99999), (x, seed) -> x.chance(0, seed, 101, 0));
            t.refusedFor(NO, new int[] {0, 1, 99, -1, -100, -101, -2001, 2100, 2101, 2110, 9901, Integer.MIN_VALUE, Integer.MAX_VALUE},
                (x, how) -> x.chance(0, 0, how, 0));
            t.nights(NO, (x, n) -> n < 0 || n > 99 ? x.chance(0, 0, 2099, 0) : x.chance(0, 0, 100 + n, 0));
            t.refusedFor(NO, new int[] {111, 112, 113, 199, 2011, 2099}, (x, how) -> x.chance(0, 0, how, 0));
            t.refusedFor(NO, Scenes.beyond(0, 1), (x, part) -> x.chance(0, 0, 101, part));
            // none such of one that is gone, either
            t.refused(NO, x -> x.chance(Scenes.GONE, 0, 111, 0));
        });
    }

    private static int divisor(int a, int b) {
        return b == 0 ? a : divisor(b, a % b);
    }

    private static void images(Edges e) {
        e.terms("AN IMAGE keeps where anchors are, what is OUT, NOW, TRIALS, THE LAW.", t -> {
            AnchorThatDrags x = new AnchorThatDrags();
            x.boat(1, 23, 0, 1);
            x.boat(0, 900, 99, 40);
            x.goOn(1);
            x.trial(4, 3, 1, 1);
            t.is(x.image(), 2);
            x.let(0, 0, 99);
            x.let(0, 1, 40);
            x.let(1, 0, 0);
            x.let(1, 1, 1);
            x.goOn(10);
            x.trial(4, 3, 0, 99);
            x.trial(0, 0, 1, 1);
            x.force(Scenes.text(x, "pull 9;hold 9;jerk 9;"));
            t.is(x.back(), 2);
            t.is(x.boatTold(0, 4), 0);
            t.is(x.boatTold(0, 5), 1);
            t.is(x.boatTold(1, 4), -1);
            t.is(x.boatTold(1, 5), 40);
            t.is(x.count(0), 1);
            t.is(x.rate(4, 3, 0), 2);
            t.is(x.rate(4, 3, 1), 3);
            t.is(x.rate(0, 0, 1), 2);
            t.is(x.count(3), 0);
            t.is(x.asks(0, 2003, 0, 0), 60);
            // a law that isn't the first one, too
            t.is(x.force(1), 0);
            x.image();
            x.force(0);
            t.is(x.back(), 2);
            t.is(x.count(3), 1);
            t.is(x.asks(0, 2003, 0, 0), 9);
            // and no more than these: the bay, the hours, texts, the tape, sheets stay as they have become
            AnchorThatDrags y = new AnchorThatDrags();
            y.image();
            y.sound(0, 0, 30);
            y.sound(99, 1, 3);
            y.blow(0, 0, 7);
            y.blow(11, 1, 99);
            y.blow(11, 2, -3);
            Scenes.text(y, "pull 9;hold 9;jerk 9;");
            y.feed(1, 'x', 0, 0, 0, 0);
            Scenes.fill(y, 0, 2, 44);
            t.is(y.back(), 0);
            t.is(y.told(0, 0), 30);
            t.is(y.told(99, 1), 3);
            t.is(y.told(0, 2), 7);
            t.is(y.told(11, 3), 99);
            t.is(y.told(11, 4), -3);
            t.is(y.count(2), 2);
            t.is(y.count(4), 1);
            t.is(y.cell(0, 0, 44), 1);
        });
    }

    private static void image(Edges e) {
        e.promise(42, "AN IMAGE is kept: how many BOATS.", t -> {
            AnchorThatDrags x = new AnchorThatDrags();
            t.is(x.image(), 0);
            for (int i = 0; i < 6; i++) {
                x.boat(0, 0, 44, 5);
                t.is(x.image(), i + 1);
            }
            // the last one that was kept counts
            x.goOn(3);
            t.is(x.image(), 6);
            x.goOn(3);
            t.is(x.back(), 6);
            t.is(x.count(0), 3);
            // but for the image all is as it was
            Edges.Scene kept = y -> {
                Scenes.BUSY.on(y);
                y.image();
            };
            t.unchanged(kept, AnchorThatDrags::image);
        });
    }

    private static void back(Edges e) {
        e.promise(43, "All that it keeps is as in THE IMAGE, BOATS that came since are none: how many there are.", t -> {
            AnchorThatDrags x = new AnchorThatDrags();
            x.image();
            for (int i = 0; i < 6; i++) {
                x.boat(i, 999, 99, 40);
            }
            t.is(x.boat(0, 0, 0, 1), -4);
            t.is(x.back(), 0);
            t.is(x.count(1), 0);
            for (int i = 0; i < 6; i++) {
                t.is(x.boatTold(i, 0), -5);
            }
            t.is(x.taken(99, 6), 50);
            t.is(x.late(), -1);
            // their numbers and room are there again
            for (int i = 0; i < 6; i++) {
                t.is(x.boat(0, 0, 44, 5), i);
            }
            t.is(x.boat(0, 0, 0, 1), -4);
            t.is(x.boatTold(5, 0), 0);
            t.is(x.boatTold(5, 1), 0);
            // the image stays: once more, and as often as is told
            t.is(x.back(), 0);
            t.is(x.back(), 0);
            t.is(x.boat(0, 0, 44, 5), 0);
            t.is(x.image(), 1);
            t.is(x.back(), 1);
            Edges.Scene backAlready = y -> {
                Scenes.BUSY.on(y);
                y.back();
            };
            t.unchanged(backAlready, AnchorThatDrags::back);
            // a trial that was full has room again
            AnchorThatDrags z = new AnchorThatDrags();
            z.image();
            for (int k = 0; k < 101; k++) {
                z.trial(0, 0, 99, 99);
            }
            t.is(z.trial(0, 0, 1, 1), -4);
            t.is(z.back(), 0);
            t.is(z.trial(0, 0, 1, 1), 1);
        });
        e.promise(43, "STATE: there is none.", t -> {
            t.refused(-3, Scenes.NEW, AnchorThatDrags::back);
            t.refused(-3, Scenes.FULL, AnchorThatDrags::back);
            t.refused(-3, Scenes.at(5), AnchorThatDrags::back);
        });
    }
}
