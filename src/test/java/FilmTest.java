/** Promises 36 to 39: looks at where boats lie. */
public final class FilmTest {
    private static final Due due = new Due();

    public static void main(String[] args) {
        film();
        judge();
        refusalsOfLooks();
        which();
        laws();
        due.end();
    }

    /** Boat 0 goes ashore by 84 and 94; boat 1 stays in 44; boat 2, a PLOUGH, goes on from there in odd hours. */
    private static AnchorThatDrags three() {
        AnchorThatDrags x = new AnchorThatDrags();
        x.boat(0, 900, 74, 5);
        x.boat(0, 0, 44, 5);
        x.boat(2, 900, 44, 5);
        return x;
    }

    private static void film() {
        AnchorThatDrags x = three();
        due.is("film(0, 0, 4)", x.film(0, 0, 4), 4);
        // the film's numbers are those with which a look finds no other place
        int[] lies = {84, 94, -1, -1};
        int[] others = {-2, -1, 0, 74, 83, 84, 85, 94, 99, 255};
        for (int k = 0; k < 4; k++) {
            for (int v : others) {
                Due.fill(x, 2, 2, lies);
                x.cell(2, k, v);
                due.is("judge with " + v + " at " + k, x.judge(0, 2), v == lies[k] ? -1 : k);
            }
        }
        due.is("judge of the film", x.judge(0, 0), -1);
        due.is("cell(0, 3, -1) of the film", x.cell(0, 3, -1), 1);
        due.is("cell(0, 4, 0) of the film", x.cell(0, 4, 0), -12);
        due.is("copy to ints", x.copy(0, 0, 2, 0, 4), 4);
        due.is("film changes no hour", x.count(0), 0);
        due.is("film changes no boat", x.boatTold(0, 4), 74);
        due.is("film(0, 0, 0)", x.film(0, 0, 0), 0);
        due.is("cell(0, 0, 0) of no film", x.cell(0, 0, 0), -12);
        due.is("film(0, 3, 12)", x.film(0, 3, 12), 12);
        due.is("judge(0, 3)", x.judge(0, 3), -1);
        x.goOn(1);
        due.is("film(0, 3, 12)", x.film(0, 3, 12), -7);
        due.is("judge(0, 3), too long", x.judge(0, 3), -2);
        due.is("film(0, 3, 11)", x.film(0, 3, 11), 11);
        due.is("judge(0, 3)", x.judge(0, 3), -1);
        due.is("cell(3, 10, 0)", x.cell(3, 10, -1), 1);
        due.is("film(0, 4, 12)", x.film(0, 4, 12), -2);
        due.is("film(0, -1, 1)", x.film(0, -1, 1), -2);
        due.is("film(3, 4, 12)", x.film(3, 4, 12), -5);
        due.is("film(-1, 0, 1)", x.film(-1, 0, 1), -5);
        due.is("film(0, 3, -1)", x.film(0, 3, -1), -7);
        due.is("judge(0, 3) behind refusals", x.judge(0, 3), -1);
        // bytes become ints
        x.sheet(1, 0, 40);
        due.is("film(1, 1, 2)", x.film(1, 1, 2), 2);
        due.is("copy of ints", x.copy(1, 0, 3, 0, 2), 2);
        due.is("copy of more", x.copy(1, 0, 3, 0, 3), -12);
        // from the hour that is now on, and of one that is gone
        x.goOn(3);
        due.is("film(0, 0, 2)", x.film(0, 0, 2), 2);
        Due.fill(x, 1, 1, -1, -1);
        due.is("judge of one that is gone", x.judge(0, 1), -1);
        due.is("which of one that is gone", x.which(1), 1);
    }

    private static void judge() {
        AnchorThatDrags x = three();
        Due.fill(x, 0, 0, 44, 44, 44);
        due.is("judge(0, bytes)", x.judge(0, 0), 0);
        due.is("judge(1, bytes)", x.judge(1, 0), -1);
        due.is("judge(2, bytes)", x.judge(2, 0), 1);
        Due.fill(x, 1, 1, 84, 94, -1, -1);
        due.is("judge(0, shorts)", x.judge(0, 1), -1);
        Due.fill(x, 1, 0, 84, 94, 255, 511);
        due.is("judge(0, bytes of -1)", x.judge(0, 1), -1);
        Due.fill(x, 1, 1, 84, 94, 255);
        due.is("judge(0, shorts of 255)", x.judge(0, 1), 2);
        Due.fill(x, 1, 2, 84, 94, 65535);
        due.is("judge(0, ints of 65535)", x.judge(0, 1), 2);
        Due.fill(x, 1, 2, 84);
        due.is("judge(0, one)", x.judge(0, 1), -1);
        x.goOn(1);
        due.is("judge(0, one) later", x.judge(0, 1), 0);
        Due.fill(x, 1, 2, 94);
        due.is("judge(0, one) later", x.judge(0, 1), -1);
        due.is("judge(2, bytes) later", x.judge(2, 0), 0);
    }

    private static void refusalsOfLooks() {
        AnchorThatDrags x = three();
        x.sheet(1, 2, 0);
        x.sheet(2, 2, 13);
        x.sheet(3, 2, 12);
        int[] sheet = {-1, 4, 0, 1, 2, 3};
        int[] judge = {-2, -2, -11, -2, -2, 0};
        for (int k = 0; k < sheet.length; k++) {
            int s = sheet[k];
            due.is("judge(1, " + s + ")", x.judge(1, s), judge[k]);
            due.is("which(" + s + ")", x.which(s), judge[k]);
            due.is("laws(1, " + s + ")", x.laws(1, s), judge[k]);
            due.is("judge(3, " + s + ")", x.judge(3, s), -5);
            due.is("judge(-1, " + s + ")", x.judge(-1, s), -5);
            due.is("laws(3, " + s + ")", x.laws(3, s), -5);
            due.is("laws(-1, " + s + ")", x.laws(-1, s), -5);
        }
        x.goOn(1);
        due.is("judge(1, 3), too long", x.judge(1, 3), -2);
        due.is("which(3), too long", x.which(3), -2);
        due.is("laws(1, 3), too long", x.laws(1, 3), -2);
        x.goOn(10);
        x.sheet(2, 0, 2);
        x.sheet(3, 0, 1);
        due.is("judge(1, 2), too long", x.judge(1, 2), -2);
        due.is("judge(1, 3)", x.judge(1, 3), 0);
    }

    private static void which() {
        AnchorThatDrags x = three();
        Due.fill(x, 0, 2, 44);
        due.is("which of 44", x.which(0), 6);
        Due.fill(x, 0, 2, 44, 44);
        due.is("which of 44, 44", x.which(0), 2);
        Due.fill(x, 0, 2, 84);
        due.is("which of 84", x.which(0), 1);
        Due.fill(x, 0, 2, 85);
        due.is("which of 85", x.which(0), 0);
        x.let(0, 0, 34);
        Due.fill(x, 0, 2, 44);
        due.is("which of 44, all", x.which(0), 7);
        due.is("which of no boats", empty().which(0), 0);
    }

    private static AnchorThatDrags empty() {
        AnchorThatDrags x = new AnchorThatDrags();
        Due.fill(x, 0, 2, 44);
        return x;
    }

    private static void laws() {
        AnchorThatDrags x = three();
        Due.text(x, "pull 1;hold 0;jerk 0;");
        Due.text(x, "pull 0;hold 0;jerk 0;");
        Due.text(x, "pull wind;hold 19;jerk 0;");
        Due.fill(x, 0, 2, 44, 44);
        // boat 1 lies there by the first law, as nothing pulls, and by text 2
        due.is("laws(1, 0)", x.laws(1, 0), 5);
        Due.fill(x, 0, 2, 54, 64);
        due.is("laws(1, 0)", x.laws(1, 0), 10);
        Due.fill(x, 0, 2, 54, 65);
        due.is("laws(1, 0)", x.laws(1, 0), 0);
        Due.fill(x, 0, 2, 84);
        due.is("laws(0, 0)", x.laws(0, 0), 11);
        due.is("the law", x.count(3), 0);
        due.is("judge behind laws", x.judge(0, 0), -1);
        due.is("pull behind laws", x.hold(0, 0, 0), 180);
        x.force(2);
        due.is("laws(0, 0) under another", x.laws(0, 0), 11);
        due.is("judge under another", x.judge(0, 0), 0);
        due.is("the law", x.count(3), 2);
    }
}
