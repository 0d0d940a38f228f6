/** Promises 44 to 48: sheets, boats by a sheet, what lies in a cell. */
public final class HostTest {
    private static final Due due = new Due();

    public static void main(String[] args) {
        sheet();
        cell();
        copy();
        boatsBy();
        boatsBySorts();
        taken();
        due.end();
    }

    private static void sheet() {
        AnchorThatDrags x = new AnchorThatDrags();
        for (int sort = 0; sort < 3; sort++) {
            due.is("sheet(3, " + sort + ", 40)", x.sheet(3, sort, 40), 1);
            due.is("cell(3, 39, 1)", x.cell(3, 39, 1), 1);
            due.is("cell(3, 40, 1)", x.cell(3, 40, 1), -12);
        }
        due.is("sheet(0, 0, 0)", x.sheet(0, 0, 0), 1);
        due.is("cell(0, 0, 1)", x.cell(0, 0, 1), -12);
        due.is("sheet(0, -1, 7)", x.sheet(0, -1, 7), 1);
        due.is("cell(0, 0, 1)", x.cell(0, 0, 1), -11);
        due.is("sheet(0, -1, 99)", x.sheet(0, -1, 99), 1);
        due.is("sheet(0, -1, -9)", x.sheet(0, -1, -9), 1);
        due.is("sheet(4, 0, 1)", x.sheet(4, 0, 1), -2);
        due.is("sheet(-1, 0, 1)", x.sheet(-1, 0, 1), -2);
        due.is("sheet(4, -1, 1)", x.sheet(4, -1, 1), -2);
        due.is("sheet(0, 3, 1)", x.sheet(0, 3, 1), -2);
        due.is("sheet(0, -2, 1)", x.sheet(0, -2, 1), -2);
        due.is("sheet(0, 3, -1)", x.sheet(0, 3, -1), -2);
        due.is("sheet(0, 0, 41)", x.sheet(0, 0, 41), -2);
        due.is("sheet(0, 0, -1)", x.sheet(0, 0, -1), -14);
        due.is("sheet(0, 2, MIN)", x.sheet(0, 2, Integer.MIN_VALUE), -14);
        due.is("cell(0, 0, 1) behind refusals", x.cell(0, 0, 1), -11);
        // all 0, also where numbers were
        x.sheet(3, 2, 4);
        due.is("boatsBy of zeros", x.boatsBy(3, 2, 0, 1), 0);
        x.cell(3, 3, 7);
        due.is("boatsBy of 0, 0, 0, 7", x.boatsBy(3, 2, 0, 1), 1);
        x.sheet(3, 2, 4);
        due.is("boatsBy of zeros", x.boatsBy(3, 2, 0, 1), 0);
        // a sheet that was longer: what was beyond is gone, too
        x.sheet(3, 2, 8);
        x.cell(3, 7, 7);
        x.sheet(3, 2, 1);
        x.sheet(3, 2, 8);
        due.is("boatsBy of zeros", x.boatsBy(3, 2, 4, 1), 0);
    }

    private static void cell() {
        AnchorThatDrags x = new AnchorThatDrags();
        due.is("cell(4, 0, 0)", x.cell(4, 0, 0), -2);
        due.is("cell(-1, 0, 0)", x.cell(-1, 0, 0), -2);
        due.is("cell(0, 0, 0)", x.cell(0, 0, 0), -11);
        due.is("cell(0, -1, 0)", x.cell(0, -1, 0), -11);
        x.sheet(0, 2, 3);
        due.is("cell(0, 2, 0)", x.cell(0, 2, 0), 1);
        due.is("cell(0, 3, 0)", x.cell(0, 3, 0), -12);
        due.is("cell(0, -1, 0)", x.cell(0, -1, 0), -12);
        due.is("cell(0, MIN, 0)", x.cell(0, Integer.MIN_VALUE, 0), -12);
        due.is("cell(1, 0, 0)", x.cell(1, 0, 0), -11);
    }

    private static void copy() {
        AnchorThatDrags x = new AnchorThatDrags();
        // a look tells what a sheet holds: boats that stay lie in the cells of the film
        x.boat(0, 0, 44, 5);
        Due.fill(x, 0, 2, 1, 2, 3, 4, 5, 6);
        Due.fill(x, 1, 2, 44, 44, 44);
        Due.fill(x, 2, 1, 44, 44, 44);
        due.is("copy(1, 0, 0, 2, 2)", x.copy(1, 0, 0, 2, 2), 2);
        due.is("judge(0, 0)", x.judge(0, 0), 0);
        due.is("copy(1, 0, 0, 0, 2)", x.copy(1, 0, 0, 0, 2), 2);
        due.is("judge(0, 0)", x.judge(0, 0), 4);
        due.is("copy(0, 2, 0, 4, 2)", x.copy(0, 2, 0, 4, 2), 2);
        due.is("judge(0, 0)", x.judge(0, 0), -1);
        // its own, as the numbers were
        Due.fill(x, 0, 2, 44, 7, 7, 7, 7);
        due.is("copy(0, 0, 0, 1, 4)", x.copy(0, 0, 0, 1, 4), 4);
        due.is("judge(0, 0) on", x.judge(0, 0), 2);
        Due.fill(x, 0, 2, 7, 44, 44, 44, 7);
        due.is("copy(0, 1, 0, 0, 4)", x.copy(0, 1, 0, 0, 4), 4);
        due.is("judge(0, 0) back", x.judge(0, 0), 3);
        due.is("copy none", x.copy(0, 5, 1, 3, 0), 0);
        due.is("copy none, outside", x.copy(0, 6, 1, 3, 0), -12);
        due.is("copy none, outside", x.copy(0, 5, 1, 4, 0), -12);
        due.is("copy(4, ..)", x.copy(4, 0, 0, 0, 1), -2);
        due.is("copy(-1, ..)", x.copy(-1, 0, 3, 0, 1), -2);
        due.is("copy(0, 0, 4, ..)", x.copy(0, 0, 4, 0, 1), -2);
        due.is("copy(3, 0, -1, ..)", x.copy(3, 0, -1, 0, 1), -2);
        due.is("copy from a missing one", x.copy(3, 9, 2, 9, 9), -11);
        due.is("copy to a missing one", x.copy(0, 9, 3, 9, 9), -11);
        due.is("copy of unlike sorts", x.copy(0, 9, 2, 9, 9), -13);
        due.is("copy of unlike sorts", x.copy(2, 0, 0, 0, 1), -13);
        due.is("copy from -1", x.copy(0, -1, 1, 0, 1), -12);
        due.is("copy to -1", x.copy(0, 0, 1, -1, 1), -12);
        due.is("copy of -1", x.copy(0, 0, 1, 0, -1), -12);
        due.is("copy beyond its end", x.copy(0, 3, 1, 0, 3), -12);
        due.is("copy beyond the other's end", x.copy(0, 0, 1, 1, 3), -12);
        due.is("copy of very many", x.copy(0, 1, 1, 1, Integer.MAX_VALUE), -12);
        due.is("copy from very far", x.copy(0, Integer.MAX_VALUE, 1, 0, 1), -12);
        due.is("judge(0, 1) behind refusals", x.judge(0, 1), -1);
        due.is("judge(0, 0) behind refusals", x.judge(0, 0), 3);
    }

    private static void boatsBy() {
        AnchorThatDrags x = new AnchorThatDrags();
        Due.fill(x, 0, 2, 9, 1, 230, 45, 6, 6, 0, 0, 1, 5, 999, 99, 40, 0, 0);
        due.is("boatsBy(0, 2, 1, 0)", x.boatsBy(0, 2, 1, 0), 0);
        due.is("boatsBy(0, 2, 1, 3)", x.boatsBy(0, 2, 1, 3), 2);
        due.is("count(1)", x.count(1), 2);
        due.is("boatTold(0, 0)", x.boatTold(0, 0), 1);
        due.is("boatTold(0, 1)", x.boatTold(0, 1), 2);
        due.is("boatTold(0, 2)", x.boatTold(0, 2), 3);
        due.is("boatTold(0, 4)", x.boatTold(0, 4), 45);
        due.is("boatTold(0, 5)", x.boatTold(0, 5), 6);
        due.is("boatTold(1, 0)", x.boatTold(1, 0), 5);
        due.is("boatTold(1, 3)", x.boatTold(1, 3), 9);
        due.is("boatTold(1, 4)", x.boatTold(1, 4), 99);
        due.is("boatTold(1, 5)", x.boatTold(1, 5), 40);
        // what stood ahead of the place outside came
        due.is("boatsBy(0, 2, 9, 2)", x.boatsBy(0, 2, 9, 2), -12);
        due.is("count(1)", x.count(1), 3);
        due.is("boatsBy(0, 2, 12, 1)", x.boatsBy(0, 2, 12, 1), -12);
        due.is("boatsBy(0, 2, -1, 1)", x.boatsBy(0, 2, -1, 1), -12);
        due.is("boatsBy(0, 2, MAX, 2)", x.boatsBy(0, 2, Integer.MAX_VALUE, 2), -12);
        due.is("boatsBy(0, 2, MIN, 2)", x.boatsBy(0, 2, Integer.MIN_VALUE, 2), -12);
        due.is("count(1)", x.count(1), 3);
        due.is("boatsBy(4, 2, 1, 1)", x.boatsBy(4, 2, 1, 1), -2);
        due.is("boatsBy(-1, 2, 1, 1)", x.boatsBy(-1, 2, 1, 1), -2);
        due.is("boatsBy(0, 3, 1, 1)", x.boatsBy(0, 3, 1, 1), -2);
        due.is("boatsBy(0, -1, 1, 1)", x.boatsBy(0, -1, 1, 1), -2);
        due.is("boatsBy(1, 2, 1, 7)", x.boatsBy(1, 2, 1, 7), -2);
        due.is("boatsBy(1, 2, 1, -1)", x.boatsBy(1, 2, 1, -1), -2);
        due.is("boatsBy(1, 2, 1, 1)", x.boatsBy(1, 2, 1, 1), -11);
        due.is("boatsBy(0, 1, -1, 1)", x.boatsBy(0, 1, -1, 1), -13);
        // those for whom there is no room are left out
        Due.fill(x, 1, 1, 0, 0, 1, 1, 0, 0, 2, 2, 0, 0, 3, 3, 0, 0, 4, 4, 0, 0, 5, 5);
        due.is("boatsBy(1, 1, 0, 5)", x.boatsBy(1, 1, 0, 5), 3);
        due.is("count(1)", x.count(1), 6);
        due.is("boatTold(5, 4)", x.boatTold(5, 4), 3);
        due.is("boatsBy(1, 1, 0, 6)", x.boatsBy(1, 1, 0, 6), -12);
        due.is("boatsBy(1, 1, 0, 5)", x.boatsBy(1, 1, 0, 5), 0);
    }

    /** Bytes and shorts keep their lowest bits alone, the highest of which is the sign. */
    private static void boatsBySorts() {
        AnchorThatDrags x = new AnchorThatDrags();
        Due.fill(x, 0, 0, 256, 512 + 99, 0x7f00 + 44, -256 + 5);
        due.is("boatsBy of bytes", x.boatsBy(0, 0, 0, 1), 1);
        due.is("boatTold(0, 2)", x.boatTold(0, 2), 9);
        due.is("boatTold(0, 4)", x.boatTold(0, 4), 44);
        due.is("boatTold(0, 5)", x.boatTold(0, 5), 5);
        Due.fill(x, 0, 0, 0, 200, 44, 5);
        due.is("boatsBy of a byte of 200", x.boatsBy(0, 0, 0, 1), 0);
        Due.fill(x, 1, 1, 65536, 999, 44, -65536 + 5);
        due.is("boatsBy of shorts", x.boatsBy(1, 1, 0, 1), 1);
        due.is("boatTold(1, 1)", x.boatTold(1, 1), 9);
        due.is("boatTold(1, 5)", x.boatTold(1, 5), 5);
        Due.fill(x, 1, 1, 0, 999, 44, 256 + 5);
        due.is("boatsBy of a short of 261", x.boatsBy(1, 1, 0, 1), 0);
        Due.fill(x, 2, 2, 0, 999, 44, 65536 + 5);
        due.is("boatsBy of an int of 65541", x.boatsBy(2, 2, 0, 1), 0);
        due.is("count(1)", x.count(1), 2);
    }

    private static void taken() {
        // for which kinds each kind may be taken
        int[] bits = {1, 3, 5, 9, 19, 35};
        for (int kind = 0; kind < 6; kind++) {
            AnchorThatDrags x = new AnchorThatDrags();
            x.boat(0, 0, 0, 5);
            x.boat(kind, 0, 44, 5);
            for (int as = 0; as < 7; as++) {
                due.is("kind " + kind + " taken for " + as, x.taken(44, as), (bits[kind] >> as & 1) == 1 ? 1 : -13);
            }
        }
        AnchorThatDrags x = new AnchorThatDrags();
        x.boat(2, 0, 44, 5);
        x.boat(1, 0, 44, 5);
        due.is("the first is taken", x.taken(44, 0), 0);
        due.is("the second isn't", x.taken(44, 1), -13);
        x.sound(45, 0, 30);
        x.sound(45, 1, 3);
        due.is("water", x.taken(45, 6), 303);
        due.is("water of DEPTH 5", x.taken(46, 6), 50);
        for (int kind = 0; kind < 6; kind++) {
            due.is("water taken for " + kind, x.taken(45, kind), -13);
        }
        x.sound(46, 0, 0);
        x.sound(46, 1, 2);
        due.is("neither", x.taken(46, 6), -11);
        due.is("neither", x.taken(46, 0), -11);
        x.sound(44, 0, 0);
        due.is("a boat on the dry", x.taken(44, 2), 0);
        // by its DEPTH, whatever the TIDE
        x.sound(47, 0, 1);
        x.blow(0, 2, -3);
        due.is("water of DEPTH 1", x.taken(47, 6), 10);
        x.blow(0, 2, 3);
        due.is("neither, at TIDE 3", x.taken(46, 6), -11);
        due.is("taken(0, 7)", x.taken(0, 7), -2);
        due.is("taken(0, -1)", x.taken(0, -1), -2);
        due.is("taken(100, 7)", x.taken(100, 7), -2);
        due.is("taken(100, 0)", x.taken(100, 0), -12);
        due.is("taken(-1, 6)", x.taken(-1, 6), -12);
        // where the anchor is, not where the boat lies, nor where it was
        x.sound(44, 0, 5);
        x.let(0, 1, 40);
        due.is("where it lies", x.taken(74, 6), 50);
        x.let(0, 0, 94);
        x.let(1, 0, 50);
        due.is("where it was", x.taken(44, 6), 50);
        due.is("where it is", x.taken(94, 2), 0);
    }
}
