/** Promises 7 to 10: the tape, texts and their faults, the law, what it says. */
public final class TextTest {
    private static final Due due = new Due();

    public static void main(String[] args) {
        feed();
        goodTexts();
        tokensAtFault();
        wordsAndNumbersAtFault();
        tooManyOpen();
        textsAreFull();
        force();
        values();
        wrapping();
        bounds();
        asks();
        due.end();
    }

    private static void feed() {
        AnchorThatDrags x = new AnchorThatDrags();
        due.is("feed(1)", x.feed(1, 97, 0, 0, 0, 0), 1);
        due.is("feed(5)", x.feed(5, 0, 255, 1, 2, 3), 6);
        due.is("feed(2)", x.feed(2, 0, 255, 1, 2, 3), 8);
        due.is("feed(0)", x.feed(0, 0, 0, 0, 0, 0), -2);
        due.is("feed(6)", x.feed(6, 0, 0, 0, 0, 0), -2);
        due.is("feed a", x.feed(5, 256, 0, 0, 0, 0), -2);
        due.is("feed b", x.feed(1, 0, 256, 0, 0, 0), -2);
        due.is("feed c", x.feed(1, 0, 0, -1, 0, 0), -2);
        due.is("feed d", x.feed(1, 0, 0, 0, -1, 0), -2);
        due.is("feed e", x.feed(1, 0, 0, 0, 0, 256), -2);
        due.is("count(4)", x.count(4), 8);
        for (int k = 0; k < 30; k++) {
            x.feed(5, 32, 32, 32, 32, 32);
        }
        due.is("feed(3) of 158", x.feed(3, 32, 32, 32, 32, 32), -4);
        due.is("feed(6) of 158", x.feed(6, 32, 32, 32, 32, 32), -2);
        due.is("count(4) of 158", x.count(4), 158);
        due.is("feed(2) of 158", x.feed(2, 32, 32, 0, 0, 0), 160);
        due.is("feed(1) of 160", x.feed(1, 32, 0, 0, 0, 0), -4);
        due.is("text()", x.text(), -100);
        // the order of the five, and that none beyond n comes
        AnchorThatDrags y = new AnchorThatDrags();
        y.feed(5, 'p', 'u', 'l', 'l', ' ');
        y.feed(4, '7', ';', 'h', 'o', 'x');
        y.feed(3, 'l', 'd', ' ', 'x', 'x');
        y.feed(2, '8', ';', 'x', 'x', 'x');
        y.feed(5, 'j', 'e', 'r', 'k', ' ');
        due.is("feed(2)", y.feed(2, '9', ';', 'x', 'x', 'x'), 21);
        due.is("text()", y.text(), 1);
        y.force(1);
        due.is("asks(0)", y.asks(0, 0, 0, 0), 7);
        due.is("asks(1)", y.asks(1, 0, 0, 0), 8);
        due.is("asks(2)", y.asks(2, 0, 0, 0), 9);
    }

    private static void good(String text) {
        AnchorThatDrags x = new AnchorThatDrags();
        due.is(text, Due.text(x, text), 1);
        due.is("the tape behind " + text, x.count(4), 0);
        due.is("the texts behind " + text, x.count(2), 2);
        due.is("the law behind " + text, x.count(3), 0);
    }

    private static void fault(String text, int place) {
        AnchorThatDrags x = new AnchorThatDrags();
        due.is(text, Due.text(x, text), -100 - place);
        due.is("the tape behind " + text, x.count(4), 0);
        due.is("the texts behind " + text, x.count(2), 1);
    }

    private static void goodTexts() {
        good("pull 1;hold 2;jerk 3;");
        good("  pull 1 ;\nhold\n2 ;jerk 3 ;\n \n");
        good("pull wind;hold area*deep;jerk out-bed+heavy;");
        good("pull 1234;hold 0000;jerk 9;");
        good("pull 1and 2or 3;hold not not 1;jerk--1;");
        good("pull 1<2;hold 1=2;jerk not 1+1<2*3;");
        good("pull (1<2)<(3=4);hold (not 1)*(1 or 2);jerk 1;");
        StringBuilder full = new StringBuilder("pull 1;hold 2;jerk 3");
        while (full.length() < 158) {
            full.append("+4");
        }
        good(full.append(" ;").toString());
    }

    private static void tokensAtFault() {
        fault("", 0);
        fault("   ", 3);
        fault(" ".repeat(160), 160);
        fault("\n".repeat(159) + "7", 159);
        fault("hold 1;", 0);
        fault(" pull", 5);
        fault(" pull  ", 7);
        fault("pull 1;hold 2;jerk 3", 20);
        fault("pull 1;hold 2;jerk 3 ", 21);
        fault("pull 1;hold 2;jerk 3;;", 21);
        fault("pull 1;hold 2;jerk 3; 4", 22);
        fault("pull 1;hold 2;jerk 3;pull 1;", 21);
        fault("pull 1 hold 2;jerk 3;", 7);
        fault("pull 1;jerk 2;", 7);
        fault("pull 1;hold 2;hold 3;", 14);
        fault("pull ;", 5);
        fault("pull (1;", 7);
        fault("pull 1);", 6);
        fault("pull ();", 6);
        fault("pull 1 2;", 7);
        fault("pull 1 < 2 < 3;", 11);
        fault("pull 1 = 2 < 3;", 11);
        fault("pull 1 not 2;", 7);
        fault("pull 1 + not 2;", 9);
        fault("pull 1 < not 2;", 9);
        fault("pull - not 2;", 7);
        fault("pull not and 2;", 9);
        fault("pull 1 + ", 9);
        fault("pull 1 or ;", 10);
        fault("pull 1 and or 2;", 11);
        fault("pull * 2;", 5);
        fault("pull + 2;", 5);
        fault("pull pull;", 5);
        fault("pull ) $", 5);
    }

    private static void wordsAndNumbersAtFault() {
        fault("pulled 1;", 0);
        fault("pull1;hold 2;jerk 3;pul", 20);
        fault("pull 12345;", 5);
        fault("pull 1+00000;", 7);
        fault("pull 1a;", 6);
        fault("pull winds;", 5);
        fault("pull win;", 5);
        fault("bull 1;", 0);
        fault("pull kind;", 5);
        fault("pull weep;", 5);
        fault("pull windarea;", 5);
        fault("pull nota;", 5);
        fault("pull -x 1;", 6);
        fault("pull (x 1);", 6);
        fault("pull not x 1;", 9);
        fault("pull 1+12345 2;", 7);
        fault("Pull 1;", 0);
        int[] none = {0, 9, 13, 31, 33, 39, 44, 46, 47, 58, 62, 63, 64, 65, 90, 91, 95, 96, 123, 127, 128, 160, 225, 255};
        for (int b : none) {
            fault("pull 1" + (char) b + ";", 6);
            fault("pull " + (char) b + "1;", 5);
        }
    }

    private static void tooManyOpen() {
        good("pull (((((1)))));hold 1;jerk 1;");
        fault("pull ((((((1))))));hold 1;jerk 1;", 10);
        good("pull not not not not not 1;hold 1;jerk 1;");
        fault("pull not not not not not not 1;hold 1;jerk 1;", 25);
        good("pull -----1;hold 1;jerk 1;");
        fault("pull ------1;hold 1;jerk 1;", 10);
        good("pull not(-(not 1));hold 1;jerk 1;");
        good("pull not(-(not wind));hold 1;jerk 1;");
        fault("pull not(-(not(1)));hold 1;jerk 1;", 14);
        fault("pull not(-(not-1));hold 1;jerk 1;", 14);
        fault("pull not(-(not not 1));hold 1;jerk 1;", 15);
        good("pull ((((1))))+(((((1)))))*-----1;hold (((((1)))));jerk -----1;");
        good("pull 1------2;hold 1;jerk 1;");
        fault("pull 1-------2;hold 1;jerk 1;", 12);
        good("pull not 1 and not not not not not 1 or not not not not not 1;hold 1;jerk 1;");
        fault("pull not (not 1 and not not not not 1);hold 1;jerk 1;", 32);
        good("pull not 1<((((1))));hold 1;jerk 1;");
        fault("pull not 1<(((((1)))));hold 1;jerk 1;", 15);
        good("pull not 1 and (((((1)))));hold 1;jerk 1;");
        good("pull -1+(((((1)))));hold 1;jerk 1;");
        good("pull -1*(((((1)))));hold 1;jerk 1;");
        // what can't stand there is at fault as such, and what may stand there isn't
        fault("pull (((((", 10);
        fault("pull (((((1 (", 12);
        fault("pull (((((1-", 12);
    }

    private static void textsAreFull() {
        AnchorThatDrags x = new AnchorThatDrags();
        for (int t = 1; t < 6; t++) {
            due.is("text " + t, Due.text(x, "pull " + t + ";hold 2;jerk 3;"), t);
        }
        due.is("count(2)", x.count(2), 6);
        due.is("text 6", Due.text(x, "pull 1;hold 2;jerk 3;"), -4);
        due.is("count(4)", x.count(4), 21);
        due.is("a fault of text 6", Due.text(x, "$"), -4);
        due.is("count(4)", x.count(4), 22);
        for (int t = 1; t < 6; t++) {
            x.force(t);
            due.is("asks(0) of " + t, x.asks(0, 0, 0, 0), t);
        }
    }

    private static void force() {
        AnchorThatDrags x = new AnchorThatDrags();
        due.is("force(0)", x.force(0), 0);
        due.is("force(1)", x.force(1), -2);
        due.is("force(-1)", x.force(-1), -2);
        Due.text(x, "pull 11;hold 22;jerk 33;");
        due.is("asks(0)", x.asks(0, 2003, 0, 0), 60);
        due.is("force(1)", x.force(1), 0);
        due.is("asks(0)", x.asks(0, 2003, 0, 0), 11);
        due.is("force(2)", x.force(2), -2);
        due.is("force(0)", x.force(0), 1);
        due.is("asks(0)", x.asks(0, 2003, 0, 0), 60);
        // a text at fault leaves the law alone
        due.is("text()", Due.text(x, "pull 5;hold 6;jerk"), -118);
        due.is("asks(0)", x.asks(0, 2003, 0, 0), 60);
        // and the next one comes in its place
        due.is("text()", Due.text(x, "pull 9;hold 9;jerk 9;"), 2);
        x.force(2);
        due.is("asks(0)", x.asks(0, 2003, 0, 0), 9);
        due.is("asks(1)", x.asks(1, 2003, 0, 0), 9);
    }

    /** wind 12, area 34, deep 56, out 78, bed 3, heavy 9. */
    private static void value(String e, int want) {
        AnchorThatDrags x = Due.under("pull " + e + ";hold 0;jerk 0;");
        due.is(e, x.asks(0, 1234, 5678, 39), want);
        AnchorThatDrags y = Due.under("pull 0;hold " + e + ";jerk 0;");
        due.is("hold " + e, y.asks(1, 1234, 5678, 39), want);
        AnchorThatDrags z = Due.under("pull 0;hold 0;jerk " + e + ";");
        due.is("jerk " + e, z.asks(2, 1234, 5678, 39), Math.min(100, want));
    }

    private static void values() {
        value("wind", 12);
        value("area", 34);
        value("deep", 56);
        value("out", 78);
        value("bed", 3);
        value("heavy", 9);
        value("2+3*4", 14);
        value("(2+3)*4", 20);
        value("10-3-2", 5);
        value("10-(3-2)", 9);
        value("2*-3+10", 4);
        value("--7", 7);
        value("-(2-9)", 7);
        value("7 or 0", 1);
        value("0 or 7", 1);
        value("0 or 0", 0);
        value("5+(0 or 0)+(0 and 1)+(not 1)+(1<0)+(1=0)", 5);
        value("3 and 5", 1);
        value("3 and 0", 0);
        value("0 and 3", 0);
        value("1 or 0 and 0", 1);
        value("(1 or 0) and 0", 0);
        value("not 0", 1);
        value("not 7", 0);
        value("not not 7", 1);
        value("not 0 and 0", 0);
        value("not (0 and 0)", 1);
        value("not 2 < 1", 1);
        value("(not 2) < 1", 1);
        value("not 1 < 2", 0);
        value("(not 2) < 0", 0);
        value("1+1=2", 1);
        value("1<1", 0);
        value("1<2", 1);
        value("2<1", 0);
        value("1=2", 0);
        value("3*2<7", 1);
        value("7<3*2", 0);
        value("(1<2)*5+(2<1)*7+(4=4)*20", 25);
        value("-1<0", 1);
        value("0-1 or 0", 1);
        value("0007+0030", 37);
        value("9*9*9+9999*0", 729);
    }

    private static void wrapping() {
        value("4096*4096*256+7", 7);
        value("4096*4096*128", 0);
        value("4096*4096*128-1", 999);
        value("-(4096*4096*128)", 0);
        value("4096*4096*128<0", 1);
        value("-(4096*4096*128)-1", 999);
        value("4096*4096*128+4096*4096*128+5", 5);
    }

    private static void bounds() {
        AnchorThatDrags x = Due.under("pull 1000;hold 1000;jerk 101;");
        due.is("pull 1000", x.asks(0, 0, 0, 0), 999);
        due.is("hold 1000", x.asks(1, 0, 0, 0), 999);
        due.is("jerk 101", x.asks(2, 0, 0, 0), 100);
        AnchorThatDrags y = Due.under("pull -1;hold 0-1;jerk -wind;");
        due.is("pull -1", y.asks(0, 9999, 0, 0), 0);
        due.is("hold -1", y.asks(1, 9999, 0, 0), 0);
        due.is("jerk -99", y.asks(2, 9999, 0, 0), 0);
        AnchorThatDrags z = Due.under("pull 999;hold 999;jerk 100;");
        due.is("pull 999", z.asks(0, 0, 0, 0), 999);
        due.is("hold 999", z.asks(1, 0, 0, 0), 999);
        due.is("jerk 100", z.asks(2, 0, 0, 0), 100);
    }

    private static void asks() {
        AnchorThatDrags x = new AnchorThatDrags();
        due.is("asks(0) of 9999", x.asks(0, 9999, 0, 0), 999);
        due.is("asks(0) of 909", x.asks(0, 909, 9999, 39), 81);
        due.is("asks(1) of 39", x.asks(1, 0, 0, 39), 90);
        due.is("asks(1) of 30", x.asks(1, 0, 0, 30), 0);
        due.is("asks(2) of 9900", x.asks(2, 9900, 9940, 0), 59);
        AnchorThatDrags y = Due.under("pull deep;hold area+out;jerk heavy+bed*10;");
        due.is("asks(0) of deep 99", y.asks(0, 0, 9900, 0), 99);
        due.is("asks(1) of area 98 and out 97", y.asks(1, 98, 97, 0), 195);
        due.is("asks(2) of 19", y.asks(2, 0, 0, 19), 19);
        due.is("asks(3)", x.asks(3, 0, 0, 0), -2);
        due.is("asks(-1)", x.asks(-1, 0, 0, 0), -2);
        due.is("asks windArea 10000", x.asks(0, 10000, 0, 0), -2);
        due.is("asks windArea -1", x.asks(0, -1, 0, 0), -2);
        due.is("asks deepOut 10000", x.asks(0, 0, 10000, 0), -2);
        due.is("asks deepOut -1", x.asks(0, 0, -1, 0), -2);
        due.is("asks bedHeavy 40", x.asks(0, 0, 0, 40), -2);
        due.is("asks bedHeavy -1", x.asks(0, 0, 0, -1), -2);
    }
}
