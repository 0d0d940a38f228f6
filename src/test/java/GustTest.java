/** Promises 40 to 43: gusts drawn by a seed, images. */
public final class GustTest {
    private static final Due due = new Due();
    private static final long NO = AnchorThatDrags.NO;

    public static void main(String[] args) {
        lots();
        drawn();
        refusalsOfDrawn();
        chance();
        image();
        imagesOfForms();
        due.end();
    }

    /** What the seed's wind is in the hour, by a boat that drags if it is above what the law holds. */
    private static int gust(int seed, int strong, int h) {
        for (int wind = 99; wind >= 0; wind--) {
            AnchorThatDrags x = Due.under("pull wind;hold " + wind + ";jerk 0;");
            x.boat(0, 0, 4, 15);
            for (int k = 0; k < 12; k++) {
                x.blow(k, 1, strong);
            }
            x.goOn(h);
            x.let(0, 0, 4);
            if (x.drawn(seed, 1, 0, 1) != 0) {
                return wind + 1;
            }
        }
        return 0;
    }

    private static void lots() {
        // the lots of SEED 0: 48271, 182605794, 1291394886; modulo 41: 14, 35, 10
        due.is("wind of SEED 0", gust(0, 20, 0), 14);
        due.is("wind of SEED 0 in HOUR 5", gust(0, 20, 5), 14);
        due.is("wind of SEED 0, weak", gust(0, 5, 0), 0);
        due.is("wind of SEED 0, weak", gust(0, 7, 0), 1);
        AnchorThatDrags x = Due.under("pull wind+1;hold 0;jerk 0;");
        x.boat(0, 0, 4, 15);
        x.blow(0, 1, 5);
        due.is("wind bound to 0, 1 more", x.drawn(0, 1, 0, 1), 1);
        // SEED 1: 96542, modulo 41 28
        due.is("wind of SEED 1", gust(1, 20, 0), 28);
        due.is("wind of SEED 1, strong", gust(1, 95, 0), 99);
        due.is("wind of SEED 1, strong", gust(1, 91, 0), 99);
        due.is("wind of SEED 1, strong", gust(1, 90, 0), 98);
        // SEED 99999: 100000 times 48271 is 4827100000, less twice 2147483647: 532132706, modulo 41 17
        due.is("wind of SEED 99999", gust(99999, 20, 0), 532132706 % 41);
    }

    private static void drawn(AnchorThatDrags x, int seed, int n, int cell, int dragged, int first) {
        String call = "drawn(" + seed + ", " + n + ", 0, ";
        due.is(call + "0)", x.drawn(seed, n, 0, 0), cell);
        due.is(call + "1)", x.drawn(seed, n, 0, 1), dragged);
        due.is(call + "2)", x.drawn(seed, n, 0, 2), first);
    }

    private static void drawn() {
        AnchorThatDrags x = new AnchorThatDrags();
        // PULL 28, 70, 20 by SEED 0, against 60
        x.boat(0, 200, 44, 15);
        drawn(x, 0, 0, 44, 0, -1);
        drawn(x, 0, 1, 44, 0, -1);
        drawn(x, 0, 2, 54, 1, 1);
        drawn(x, 0, 3, 54, 1, 1);
        due.is("night(3, 0, 1) as without", x.night(3, 0, 1), 0);
        due.is("told(1, 3)", x.told(1, 3), 20);
        // the first lot is of the hour that is now
        x.goOn(1);
        drawn(x, 0, 1, 44, 0, -1);
        drawn(x, 0, 2, 54, 1, 2);
        // the third is 1291394886: 10; in HOUR 3 that much less is little
        x.blow(3, 1, 41);
        drawn(x, 0, 3, 64, 2, 2);
        x.blow(3, 1, 40);
        drawn(x, 0, 3, 54, 1, 2);
        // it goes ashore
        x.let(0, 0, 94);
        drawn(x, 0, 3, -1, 1, 2);
        due.is("boatTold(0, 4)", x.boatTold(0, 4), 94);
    }

    private static void refusalsOfDrawn() {
        AnchorThatDrags x = new AnchorThatDrags();
        x.boat(0, 900, 94, 15);
        due.is("drawn(100000, 1, 0, 0)", x.drawn(100000, 1, 0, 0), -7);
        due.is("drawn(-1, 1, 0, 0)", x.drawn(-1, 1, 0, 0), -7);
        due.is("drawn(0, 13, 0, 0)", x.drawn(0, 13, 0, 0), -7);
        due.is("drawn(0, -1, 0, 0)", x.drawn(0, -1, 0, 0), -7);
        due.is("drawn(0, 1, 0, 3)", x.drawn(0, 1, 0, 3), -7);
        due.is("drawn(0, 1, 0, -1)", x.drawn(0, 1, 0, -1), -7);
        due.is("drawn(-1, 13, 1, 3)", x.drawn(-1, 13, 1, 3), -5);
        due.is("drawn(0, 1, -1, 0)", x.drawn(0, 1, -1, 0), -5);
        x.goOn(1);
        drawn(x, 7, 11, -1, 0, -1);
        due.is("drawn(0, 12, 0, 0)", x.drawn(0, 12, 0, 0), -7);
    }

    private static void chance(AnchorThatDrags x, int seed, int how, long above, long below) {
        due.is("chance(0, " + seed + ", " + how + ", 0)", x.chance(0, seed, how, 0), above);
        due.is("chance(0, " + seed + ", " + how + ", 1)", x.chance(0, seed, how, 1), below);
    }

    private static void chance() {
        AnchorThatDrags x = Due.under("pull wind;hold 20;jerk 0;");
        x.boat(0, 0, 4, 15);
        // winds of SEEDS 0 .. 5 in the first hour: (SEED and 1) times 14 modulo 41: 14, 28, 1, 15, 29, 2
        chance(x, 0, 101, 1, 1);
        chance(x, 1, 101, 0, 1);
        chance(x, 0, 201, 1, 2);
        chance(x, 0, 301, 2, 3);
        chance(x, 0, 401, 3, 4);
        chance(x, 0, 501, 3, 5);
        chance(x, 0, 601, 2, 3);
        chance(x, 1, 401, 1, 2);
        chance(x, 1, 400, 1, 1);
        chance(x, 0, 2000, 1, 1);
        // SEED 0 in its second hour: 35
        chance(x, 0, 102, 0, 1);
        // 99999 is 17, the next ones 532180977 and 532229248
        int next = (532180977 % 41 <= 20 ? 1 : 0) + (532229248 % 41 <= 20 ? 1 : 0);
        due.is("seeds beyond 99999", x.chance(0, 99999, 301, 0), 1 + next == 3 ? 1 : 1 + next);
        due.is("seeds beyond 99999", x.chance(0, 99999, 301, 1), 1 + next == 3 ? 1 : 3);
        due.is("night as without", x.night(1, 0, 1), 0);
        long[] refused = {
            x.chance(1, 0, 101, 0), x.chance(-1, 0, 101, 0), x.chance(0, -1, 101, 0), x.chance(0, 100000, 101, 0),
            x.chance(0, 0, 1, 0), x.chance(0, 0, 99, 0), x.chance(0, 0, 2101, 0), x.chance(0, 0, 113, 0),
            x.chance(0, 0, 199, 0), x.chance(0, 0, -101, 0), x.chance(0, 0, 101, 2), x.chance(0, 0, 101, -1)};
        for (int k = 0; k < refused.length; k++) {
            due.is("refused chance " + k, refused[k], NO);
        }
        due.is("chance of 20 seeds", x.chance(0, 0, 2012, 1) >= 1 ? 1 : 0, 1);
        x.goOn(5);
        due.is("chance of 8 HOURS in HOUR 5", x.chance(0, 0, 108, 0), NO);
        due.is("chance of 7 HOURS in HOUR 5", x.chance(0, 0, 107, 0), 0);
        chance(x, 0, 401, 3, 4);
        // one that is gone does not drag
        AnchorThatDrags y = new AnchorThatDrags();
        y.boat(0, 900, 94, 15);
        y.goOn(1);
        chance(y, 0, 511, 1, 1);
    }

    private static void image() {
        AnchorThatDrags x = new AnchorThatDrags();
        due.is("back() without", x.back(), -3);
        x.boat(0, 500, 44, 15);
        x.boat(0, 900, 94, 16);
        Due.text(x, "pull 0;hold 0;jerk 0;");
        due.is("goOn(1)", x.goOn(1), 1);
        due.is("image()", x.image(), 2);
        due.is("count(0)", x.count(0), 1);
        due.is("goOn(1)", x.goOn(1), 2);
        x.boat(3, 123, 55, 17);
        x.let(0, 1, 30);
        x.let(1, 0, 11);
        x.let(1, 1, 31);
        x.force(1);
        Due.text(x, "pull 1;hold 0;jerk 0;");
        Due.feed(x, "abc");
        x.sound(3, 0, 9);
        x.blow(4, 0, 5);
        Due.fill(x, 2, 0, 1, 2, 3);
        due.is("back()", x.back(), 2);
        due.is("count(0)", x.count(0), 1);
        due.is("count(1)", x.count(1), 2);
        due.is("count(2)", x.count(2), 3);
        due.is("count(3)", x.count(3), 0);
        due.is("count(4)", x.count(4), 3);
        due.is("told(3, 0)", x.told(3, 0), 9);
        due.is("told(4, 2)", x.told(4, 2), 5);
        due.is("cell(2, 2, 0)", x.cell(2, 2, 0), 1);
        due.is("boatTold(0, 4)", x.boatTold(0, 4), 54);
        due.is("boatTold(0, 5)", x.boatTold(0, 5), 15);
        due.is("boatTold(1, 4)", x.boatTold(1, 4), -1);
        due.is("boatTold(1, 5)", x.boatTold(1, 5), 16);
        due.is("boatTold(2, 0)", x.boatTold(2, 0), -5);
        due.is("the law that was pulls", x.hold(0, 0, 0), 100);
        // the image stays, and one that comes then is numbered as none had been
        due.is("boat", x.boat(5, 777, 66, 18), 2);
        due.is("boatTold(2, 0)", x.boatTold(2, 0), 5);
        x.goOn(5);
        due.is("back()", x.back(), 2);
        due.is("boatTold(0, 4)", x.boatTold(0, 4), 54);
        due.is("count(0)", x.count(0), 1);
        // a later image stands for the earlier one
        x.force(2);
        x.boat(4, 0, 77, 19);
        due.is("image()", x.image(), 3);
        x.force(0);
        x.let(2, 0, 78);
        due.is("back()", x.back(), 3);
        due.is("count(3)", x.count(3), 2);
        due.is("boatTold(2, 4)", x.boatTold(2, 4), 77);
        // of no boats
        AnchorThatDrags y = new AnchorThatDrags();
        due.is("image() of none", y.image(), 0);
        y.boat(0, 0, 0, 1);
        due.is("back() to none", y.back(), 0);
        due.is("count(1)", y.count(1), 0);
    }

    private static void imagesOfForms() {
        AnchorThatDrags x = new AnchorThatDrags();
        x.trial(0, 0, 1, 1);
        x.image();
        x.trial(0, 0, 3, 9);
        x.trial(4, 3, 2, 3);
        due.is("rate(0, 0, 0)", x.rate(0, 0, 0), 5);
        due.is("rate(0, 0, 1)", x.rate(0, 0, 1), 12);
        x.back();
        due.is("rate(0, 0, 0)", x.rate(0, 0, 0), 2);
        due.is("rate(0, 0, 1)", x.rate(0, 0, 1), 3);
        due.is("rate(4, 3, 1)", x.rate(4, 3, 1), 2);
        due.is("trial(0, 0, 0, 1)", x.trial(0, 0, 0, 1), 2);
        x.back();
        due.is("trial(0, 0, 0, 1)", x.trial(0, 0, 0, 1), 2);
    }
}
