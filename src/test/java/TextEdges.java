/** The terms of texts, promises 7 to 10. */
final class TextEdges {
    private static final String REST = ";hold 2;jerk 3;";

    private TextEdges() {
    }

    static void all(Edges e) {
        tokens(e);
        grammar(e);
        numbersThatWrap(e);
        faults(e);
        open(e);
        texts(e);
        feed(e);
        text(e);
        force(e);
        asks(e);
    }

    /** The text has no fault. */
    private static void good(Edges t, String text) {
        AnchorThatDrags x = new AnchorThatDrags();
        t.is(Scenes.text(x, text), 1);
        t.is(x.count(2), 2);
        t.is(x.count(4), 0);
    }

    /** The text has its fault there; it is none of the texts, and the tape is empty. */
    private static void fault(Edges t, String text, int place) {
        AnchorThatDrags x = new AnchorThatDrags();
        t.is(Scenes.text(x, text), -100 - place);
        t.is(x.count(2), 1);
        t.is(x.count(3), 0);
        t.is(x.count(4), 0);
    }

    /** What an expression is, of wind 12, area 34, deep 56, out 78, bed 3, heavy 9. */
    private static void value(Edges t, String expression, int want) {
        t.is(Scenes.under("pull " + expression + REST).asks(0, 1234, 5678, 39), want);
    }

    private static void tokens(Edges e) {
        e.terms("A TEXT is read from THE TAPE (160 bytes at most).", t -> {
            StringBuilder full = new StringBuilder("pull 1;hold 2;jerk 3;");
            while (full.length() < 160) {
                full.append(' ');
            }
            AnchorThatDrags x = new AnchorThatDrags();
            Scenes.feed(x, full.toString());
            t.is(x.count(4), 160);
            t.is(x.feed(1, ' ', 0, 0, 0, 0), -4);
            t.is(x.count(4), 160);
            t.is(x.text(), 1);
            // the 160th byte counts, and a text that fills all of it
            fault(t, full.substring(0, 159) + ";", 159);
            StringBuilder sum = new StringBuilder("pull 1;hold 2;jerk 3");
            while (sum.length() < 158) {
                sum.append("-4");
            }
            good(t, sum + " ;");
            fault(t, sum + "-4", 160);
            fault(t, sum + " 4", 159);
        });
        e.terms("TOKENS, each as long as can be:", t -> {
            value(t, "12", 12);
            value(t, "1and 2or 0", 1);
            good(t, "pull wind;hold 2;jerk 3;");
            fault(t, "pullwind;hold 2;jerk 3;", 0);
            fault(t, "pull windarea;hold 2;jerk 3;", 5);
            fault(t, "pull 1 2;hold 2;jerk 3;", 7);
            fault(t, "pull wi nd;hold 2;jerk 3;", 5);
            // a number ends where a letter begins, a word where a digit does
            value(t, "not0", 1);
            fault(t, "pull wind2;hold 2;jerk 3;", 9);
            fault(t, "pull 2wind;hold 2;jerk 3;", 6);
            good(t, "pull1;hold2;jerk3;");
        });
        e.terms("WORDS (as many letters a .. z as stand there)", t -> {
            fault(t, "pull winda;hold 2;jerk 3;", 5);
            fault(t, "pull windz;hold 2;jerk 3;", 5);
            fault(t, "pull awind;hold 2;jerk 3;", 5);
            fault(t, "pull zwind;hold 2;jerk 3;", 5);
            // the bytes beside a and z, and others that are no letters here, end the word
            for (int b : new int[] {96, 123, 64, 65, 90, 91, 95, 225, 0, 255}) {
                fault(t, "pull wind" + (char) b + ";hold 2;jerk 3;", 9);
            }
            fault(t, "pull Wind;hold 2;jerk 3;", 5);
            fault(t, "pull wInd;hold 2;jerk 3;", 5);
        });
        e.terms("NUMBERS (as many digits as stand there; more than 4 are too long)", t -> {
            value(t, "0", 0);
            value(t, "0000", 0);
            value(t, "0007", 7);
            value(t, "9999-9998", 1);
            value(t, "9999=9998+1", 1);
            fault(t, "pull 10000;hold 2;jerk 3;", 5);
            fault(t, "pull 00000;hold 2;jerk 3;", 5);
            fault(t, "pull 00001;hold 2;jerk 3;", 5);
            // the bytes beside 0 and 9 end the number
            fault(t, "pull 9999/;hold 2;jerk 3;", 9);
            fault(t, "pull 9999:;hold 2;jerk 3;", 9);
            value(t, "9000+999-9000", 999);
        });
        e.terms("SIGNS ( ) ; + - * < =", t -> {
            value(t, "(1<2)+(2=2)*3-1", 3);
            // the bytes beside the signs, and other signs
            for (int b : new int[] {33, 34, 39, 44, 46, 47, 58, 62, 63, 38, 124, 91, 93, 94, 126}) {
                fault(t, "pull 1" + (char) b + "2;hold 2;jerk 3;", 6);
                fault(t, "pull " + (char) b + "2;hold 2;jerk 3;", 5);
            }
            // no two of them are one
            fault(t, "pull 1<=2;hold 2;jerk 3;", 7);
            fault(t, "pull 1==2;hold 2;jerk 3;", 7);
            fault(t, "pull 1++2;hold 2;jerk 3;", 7);
            fault(t, "pull 1**2;hold 2;jerk 3;", 7);
        });
        e.terms("blanks (32, 10) may stand between.", t -> {
            good(t, "pull 1 ; hold 2 ; jerk 3 ;");
            good(t, "pull\n1\n;\nhold\n2\n;\njerk\n3\n;");
            good(t, "pull \n\n (  1\n ) ;hold 2;jerk 3;");
            value(t, "1 + \n 2 * ( 3 < \n\n 4 ) and not 0", 1);
            // none has to stand there
            good(t, "pull(1);hold(2);jerk(3);");
            // a blank ends a token, and no other byte is one
            fault(t, "pu ll 1;hold 2;jerk 3;", 0);
            fault(t, "pull 1\n2;hold 2;jerk 3;", 7);
            for (int b : new int[] {9, 11, 12, 13, 31, 33, 0, 160}) {
                fault(t, "pull" + (char) b + "1;hold 2;jerk 3;", 4);
                fault(t, "pull 1 " + (char) b + ";hold 2;jerk 3;", 7);
            }
        });
    }

    private static void grammar(Edges e) {
        e.terms("TEXT: pull E ; hold E ; jerk E ;", t -> {
            good(t, "pull 1;hold 2;jerk 3;");
            fault(t, "hold 2;jerk 3;", 0);
            fault(t, "pull 1;jerk 3;", 7);
            fault(t, "pull 1;hold 2;", 14);
            fault(t, "pull 1;hold 2;pull 3;", 14);
            fault(t, "pull 1;hold 2;jerk 3;jerk 4;", 21);
            fault(t, "pull 1;hold 2;jerk 3;;", 21);
            fault(t, "pull ;hold 2;jerk 3;", 5);
            fault(t, "pull 1 hold 2;jerk 3;", 7);
            fault(t, "pull 1;;hold 2;jerk 3;", 7);
            fault(t, ";", 0);
        });
        e.terms("E: AND { or AND }.", t -> {
            value(t, "0", 0);
            value(t, "0 or 0", 0);
            value(t, "0 or 0 or 0 or 5", 1);
            value(t, "1 or 0 and 0", 1);
            fault(t, "pull or 1;hold 2;jerk 3;", 5);
            fault(t, "pull 1 or;hold 2;jerk 3;", 9);
            fault(t, "pull 1 or or 1;hold 2;jerk 3;", 10);
        });
        e.terms("AND: NOT { and NOT }.", t -> {
            value(t, "7 and 7", 1);
            value(t, "1 and 2 and 3 and 0", 0);
            value(t, "not 0 and 3 < 2", 0);
            fault(t, "pull and 1;hold 2;jerk 3;", 5);
            fault(t, "pull 1 and;hold 2;jerk 3;", 10);
            fault(t, "pull 1 and or 1;hold 2;jerk 3;", 11);
        });
        e.terms("NOT: not NOT, or SUM, perhaps < or = and a SUM.", t -> {
            value(t, "not not 7", 1);
            value(t, "7", 7);
            value(t, "2+2=4", 1);
            value(t, "4<2+2", 0);
            value(t, "not 1=2", 1);
            // one < or = at most, and no not behind it or in a SUM
            fault(t, "pull 1<2<3;hold 2;jerk 3;", 8);
            fault(t, "pull 1=2=3;hold 2;jerk 3;", 8);
            fault(t, "pull 1<2=3;hold 2;jerk 3;", 8);
            fault(t, "pull 1<;hold 2;jerk 3;", 7);
            fault(t, "pull <1;hold 2;jerk 3;", 5);
            fault(t, "pull 1<not 2;hold 2;jerk 3;", 7);
            fault(t, "pull 1+not 2;hold 2;jerk 3;", 7);
            fault(t, "pull not;hold 2;jerk 3;", 8);
            value(t, "(1<2)<3", 1);
        });
        e.terms("SUM: TERM { + or - TERM }.", t -> {
            value(t, "10-3-2", 5);
            value(t, "10-3+2", 9);
            value(t, "2+3*4", 14);
            fault(t, "pull 1+;hold 2;jerk 3;", 7);
            fault(t, "pull +1;hold 2;jerk 3;", 5);
            fault(t, "pull 1-;hold 2;jerk 3;", 7);
        });
        e.terms("TERM: ONE { * ONE }.", t -> {
            value(t, "2*3*4", 24);
            value(t, "2*-3+7", 1);
            fault(t, "pull 2*;hold 2;jerk 3;", 7);
            fault(t, "pull *2;hold 2;jerk 3;", 5);
        });
        e.terms("ONE: a NUMBER, a NAME, - ONE, ( E ).", t -> {
            value(t, "--5", 5);
            value(t, "-(-5)", 5);
            value(t, "(((5)))", 5);
            value(t, "(not 0)", 1);
            fault(t, "pull ();hold 2;jerk 3;", 6);
            fault(t, "pull (1;hold 2;jerk 3;", 7);
            fault(t, "pull 1);hold 2;jerk 3;", 6);
            fault(t, "pull -;hold 2;jerk 3;", 6);
            fault(t, "pull -not 1;hold 2;jerk 3;", 6);
            for (String key : new String[] {"pull", "hold", "jerk", "or", "and"}) {
                fault(t, "pull " + key + ";hold 2;jerk 3;", 5);
            }
        });
        e.terms("NAMES: wind area deep out bed heavy.", t -> {
            value(t, "wind", 12);
            value(t, "area", 34);
            value(t, "deep", 56);
            value(t, "out", 78);
            value(t, "bed", 3);
            value(t, "heavy", 9);
            for (String other : new String[] {"win", "winds", "are", "dee", "deepe", "ou", "outs", "be", "beds", "heav", "heavyy", "more", "tide",
                "kind", "erea", "weep", "gut", "red", "leavy", "wend", "arey", "deer", "oat", "bad", "heave"}) {
                fault(t, "pull " + other + ";hold 2;jerk 3;", 5);
            }
        });
        e.terms("of or, and, not, <, = 1 or 0 (what is not 0 is true).", t -> {
            value(t, "0 or 9", 1);
            value(t, "9 or 0", 1);
            value(t, "-1 or 0", 1);
            value(t, "0 or 0", 0);
            value(t, "9 and 9", 1);
            value(t, "-1 and -1", 1);
            value(t, "9 and 0", 0);
            value(t, "0 and 9", 0);
            value(t, "not 0", 1);
            value(t, "not 1", 0);
            value(t, "not 9", 0);
            value(t, "not -1", 0);
            value(t, "2<3", 1);
            value(t, "3<3", 0);
            value(t, "4<3", 0);
            value(t, "-1<0", 1);
            value(t, "3=3", 1);
            value(t, "3=-3", 0);
            value(t, "5+(8<9)", 6);
        });
    }

    private static void numbersThatWrap(Edges e) {
        e.terms("An E is an int (32 bits, wrapping):", t -> {
            String two24 = "4096*4096";
            value(t, two24 + "*256", 0);
            value(t, two24 + "*256+7", 7);
            value(t, two24 + "*128<0", 1);
            value(t, "0<" + two24 + "*128-1", 1);
            value(t, two24 + "*128-1+1<0", 1);
            value(t, "-(" + two24 + "*128)<0", 1);
            value(t, two24 + "*128=-(" + two24 + "*128)", 1);
            value(t, two24 + "*256 or 0", 0);
            value(t, "not " + two24 + "*256", 1);
            // 9999 times 9999 times 9 is 899820009, times 5 more 4499100045, less 4294967296: 204132749
            value(t, "9999*9999*9*5-204*1000*1000-132*1000", 749);
            value(t, "9999*9999*9*5=204*1000*1000+132*1000+749", 1);
        });
    }

    private static void faults(Edges e) {
        e.terms("FAULT: the place of the first byte of the first TOKEN that can't stand there", t -> {
            fault(t, "hold", 0);
            fault(t, "  hold", 2);
            fault(t, "pull 1;hold 2;jerk 3; wind", 22);
            fault(t, "pull 1;  jerk", 9);
            fault(t, "pull 1   wind", 9);
            // the first of several
            fault(t, "pull 1 2 $ 12345 xyz", 7);
            fault(t, "pull ) ) (((((((", 5);
            // what can't stand there, though 5 are open, is told by its place as well
            fault(t, "pull (((((1 (", 12);
        });
        e.terms("(the text's size, if it ends too early)", t -> {
            fault(t, "", 0);
            fault(t, " ", 1);
            fault(t, " ".repeat(160), 160);
            fault(t, "pull", 4);
            fault(t, "pull \n", 6);
            fault(t, "pull 1", 6);
            fault(t, "pull 1;", 7);
            fault(t, "pull 1;hold", 11);
            fault(t, "pull 1;hold 2;jerk", 18);
            fault(t, "pull 1;hold 2;jerk 3", 20);
            fault(t, "pull 1;hold 2;jerk 3   ", 23);
            fault(t, "pull (", 6);
            fault(t, "pull (1", 7);
            fault(t, "pull -", 6);
            fault(t, "pull not", 8);
            fault(t, "pull 1 and ", 11);
            fault(t, "pull (((((", 10);
        });
        e.terms("also of a byte that begins none,", t -> {
            for (int b = 0; b < 256; b++) {
                boolean begins = b == 32 || b == 10 || b >= 'a' && b <= 'z' || b >= '0' && b <= '9' || "();+-*<=".indexOf(b) >= 0;
                if (!begins) {
                    fault(t, "pull " + (char) b + "1;hold 2;jerk 3;", 5);
                    fault(t, "pull 1;hold 2;jerk 3;" + (char) b, 21);
                    fault(t, (char) b + "pull 1;hold 2;jerk 3;", 0);
                }
            }
        });
        e.terms("of a WORD that is neither KEY nor NAME,", t -> {
            fault(t, "p", 0);
            fault(t, "pul 1;hold 2;jerk 3;", 0);
            fault(t, "pulls 1;hold 2;jerk 3;", 0);
            fault(t, "pull nots 1;hold 2;jerk 3;", 5);
            fault(t, "pull 1 an 1;hold 2;jerk 3;", 7);
            fault(t, "pull 1 ands 1;hold 2;jerk 3;", 7);
            fault(t, "pull 1 o 1;hold 2;jerk 3;", 7);
            fault(t, "pull 1 xor 1;hold 2;jerk 3;", 7);
            fault(t, "pull 1;hold 2;jerk 3;x", 21);
            // whatever stands ahead of it
            fault(t, "pull (x 1);hold 2;jerk 3;", 6);
            fault(t, "pull -x 1;hold 2;jerk 3;", 6);
            fault(t, "pull not x 1;hold 2;jerk 3;", 9);
            fault(t, "pull 1+x 1;hold 2;jerk 3;", 7);
            fault(t, "pull 1;x 2;jerk 3;", 7);
            // by its first letter, too
            fault(t, "bull 1;hold 2;jerk 3;", 0);
            fault(t, "pull 1;fold 2;jerk 3;", 7);
            fault(t, "pull 1;hold 2;zerk 3;", 14);
            fault(t, "pull 1 ar 1;hold 2;jerk 3;", 7);
            fault(t, "pull 1 end 1;hold 2;jerk 3;", 7);
            fault(t, "pull hot 1;hold 2;jerk 3;", 5);
        });
        e.terms("a NUMBER that is too long,", t -> {
            good(t, "pull 9999;hold 9999;jerk 9999;");
            fault(t, "pull 99999;hold 2;jerk 3;", 5);
            fault(t, "pull 1+99999;hold 2;jerk 3;", 7);
            fault(t, "pull 1;hold 2;jerk 00003;", 19);
            fault(t, "pull " + "1".repeat(155), 5);
            fault(t, "pull 12345$", 5);
        });
    }

    private static void open(Edges e) {
        e.terms("a ( , a not, a - ahead of a ONE while 5 of these are open", t -> {
            good(t, "pull (((((1)))));hold 2;jerk 3;");
            fault(t, "pull ((((((1))))));hold 2;jerk 3;", 10);
            good(t, "pull not not not not not 1;hold 2;jerk 3;");
            fault(t, "pull not not not not not not 1;hold 2;jerk 3;", 25);
            good(t, "pull -----1;hold 2;jerk 3;");
            fault(t, "pull ------1;hold 2;jerk 3;", 10);
            // of each sort the sixth, behind five of the others
            good(t, "pull (not((-wind)));hold 2;jerk 3;");
            fault(t, "pull (not((-(wind))));hold 2;jerk 3;", 12);
            fault(t, "pull (not((--(wind))));hold 2;jerk 3;", 12);
            fault(t, "pull (not(((not 1))));hold 2;jerk 3;", 12);
            fault(t, "pull (not(((-1))));hold 2;jerk 3;", 12);
            fault(t, "pull not not not not not -1;hold 2;jerk 3;", 25);
            fault(t, "pull not not not not not (1);hold 2;jerk 3;", 25);
            fault(t, "pull -----(1);hold 2;jerk 3;", 10);
            // in the other parts, too
            good(t, "pull 1;hold (((((1)))));jerk -----1;");
            fault(t, "pull 1;hold ((((((1))))));jerk 3;", 17);
            fault(t, "pull 1;hold 2;jerk ------1;", 24);
            // a - between two is none of them
            good(t, "pull (((((1-1)))));hold 2;jerk 3;");
            good(t, "pull 1------2;hold 2;jerk 3;");
            fault(t, "pull 1-------2;hold 2;jerk 3;", 12);
        });
        e.terms("(a ( till its ) , not and - till what they belong to ends)", t -> {
            good(t, "pull (((((1)))))+(((((1)))))*-----1;hold 2;jerk 3;");
            good(t, "pull ((((1))+(((1)))));hold 2;jerk 3;");
            fault(t, "pull ((((1))+((((1))))));hold 2;jerk 3;", 16);
            // a - belongs to a ONE
            good(t, "pull -1*(((((1)))));hold 2;jerk 3;");
            good(t, "pull ((((-1+(1)))));hold 2;jerk 3;");
            good(t, "pull -(1)-(((((1)))));hold 2;jerk 3;");
            fault(t, "pull ((((-(1)))));hold 2;jerk 3;", 10);
            // a not belongs to a NOT: to the sums on both sides of < or =, but not to what is behind an and, or
            good(t, "pull not 1<((((1))));hold 2;jerk 3;");
            fault(t, "pull not 1<(((((1)))));hold 2;jerk 3;", 15);
            fault(t, "pull not 1=-----1;hold 2;jerk 3;", 15);
            good(t, "pull not 1 and (((((1)))));hold 2;jerk 3;");
            good(t, "pull not 1 or not not not not not 1;hold 2;jerk 3;");
            good(t, "pull ((((not 1 and (1)))));hold 2;jerk 3;");
            fault(t, "pull ((((not 1+(1)))));hold 2;jerk 3;", 15);
        });
    }

    private static void texts(Edges e) {
        e.terms("TEXTS are numbered from 0 on, 6 at most;", t -> {
            AnchorThatDrags x = new AnchorThatDrags();
            for (int n = 1; n < 6; n++) {
                t.is(x.count(2), n);
                t.is(Scenes.text(x, "pull " + n + REST), n);
            }
            t.is(x.count(2), 6);
            t.is(Scenes.text(x, "pull 6" + REST), -4);
            t.is(x.count(2), 6);
            for (int n = 1; n < 6; n++) {
                x.force(n);
                t.is(x.asks(0, 0, 0, 0), n);
            }
            t.is(x.force(6), -2);
        });
        e.terms("TEXT 0, at first, and THE LAW: pull wind * area ; hold 60 + heavy * 10 - bed * 20 ; jerk wind - out ;", t -> {
            AnchorThatDrags x = new AnchorThatDrags();
            t.is(x.count(2), 1);
            t.is(x.count(3), 0);
            t.is(x.asks(0, 0, 0, 0), 0);
            t.is(x.asks(0, 2003, 0, 0), 60);
            t.is(x.asks(1, 0, 0, 0), 60);
            t.is(x.asks(1, 0, 0, 39), 90);
            t.is(x.asks(1, 0, 0, 9), 150);
            t.is(x.asks(1, 0, 0, 30), 0);
            t.is(x.asks(2, 9900, 40, 0), 59);
            t.is(x.asks(2, 4000, 40, 0), 0);
            t.is(x.asks(2, 4100, 40, 0), 1);
            t.is(x.force(0), 0);
        });
        e.terms("(pull, hold 0 .. 999, jerk 0 .. 100, else the bound)", t -> {
            String[] expression = {"-1", "0", "1", "99", "100", "101", "998", "999", "1000", "9999", "-9999", "4096*4096*128", "4096*4096*128-1"};
            int[] pull = {0, 0, 1, 99, 100, 101, 998, 999, 999, 999, 0, 0, 999};
            for (int k = 0; k < pull.length; k++) {
                AnchorThatDrags x = Scenes.under("pull " + expression[k] + ";hold " + expression[k] + ";jerk " + expression[k] + ";");
                x.boat(0, 0, 44, 40);
                t.is(x.hold(0, 0, 0), pull[k]);
                t.is(x.hold(0, 0, 1), pull[k]);
                t.is(x.asks(0, 0, 0, 0), pull[k]);
                t.is(x.asks(1, 0, 0, 0), pull[k]);
                t.is(x.asks(2, 0, 0, 0), Math.min(100, pull[k]));
                // a turn of 4: jerk 100 leaves nothing of the whole
                x.blow(0, 0, 4);
                t.is(x.turns(0, 2), 10000 * (100 - Math.min(100, pull[k])));
            }
        });
        e.terms("of a BOAT in an HOUR: wind: how STRONG it is; area, heavy, out: its own; deep: DEEP, bed: BED where its anchor is.", t -> {
            AnchorThatDrags x = Scenes.under("pull wind;hold 100*area+10*heavy+bed;jerk 0;");
            x.force(Scenes.text(x, "pull wind;hold 100*area+10*heavy+bed;jerk 0;"));
            x.boat(0, 0, 0, 40);
            x.boat(0, 990, 99, 40);
            x.blow(0, 1, 0);
            x.blow(11, 1, 99);
            t.is(x.hold(0, 0, 0), 0);
            t.is(x.hold(0, 11, 0), 99);
            t.is(x.hold(0, 0, 1), 0);
            t.is(x.hold(1, 0, 1), 990);
            // of the cell in which it lies, or of any other, nothing counts
            x.chart(1, 99, 1, 3);
            x.chart(10, 99, 1, 3);
            x.sound(99, 1, 1);
            t.is(x.hold(0, 0, 1), 0);
            t.is(x.hold(1, 0, 1), 991);
            AnchorThatDrags y = Scenes.under("pull deep;hold out;jerk 0;");
            y.boat(0, 0, 0, 1);
            y.boat(0, 0, 99, 40);
            y.sound(0, 0, 0);
            y.sound(99, 0, 30);
            y.blow(1, 2, 3);
            t.is(y.hold(0, 0, 0), 0);
            t.is(y.hold(1, 1, 0), 33);
            t.is(y.hold(0, 0, 1), 1);
            y.sound(99, 0, 13);
            t.is(y.hold(1, 0, 1), 40);
        });
    }

    private static void feed(Edges e) {
        e.promise(7, "The first n (1 .. 5) of five bytes (0 .. 255 each) come behind THE TAPE's, one by one: how many it has.", t -> {
            // n from 1 to 5, the others of the five not coming
            AnchorThatDrags x = new AnchorThatDrags();
            t.is(x.feed(5, 'p', 'u', 'l', 'l', ' '), 5);
            t.is(x.feed(1, '7', '7', '7', '7', '7'), 6);
            t.is(x.feed(3, ';', 'h', 'o', '$', '$'), 9);
            t.is(x.feed(4, 'l', 'd', ' ', '8', '$'), 13);
            t.is(x.feed(2, ';', 'j', '$', '$', '$'), 15);
            t.is(x.feed(5, 'e', 'r', 'k', '9', ';'), 20);
            t.is(x.text(), 1);
            x.force(1);
            t.is(x.asks(0, 0, 0, 0), 7);
            t.is(x.asks(1, 0, 0, 0), 8);
            t.is(x.asks(2, 0, 0, 0), 9);
            // 0 and 255 are bytes
            AnchorThatDrags y = new AnchorThatDrags();
            t.is(y.feed(5, 0, 255, 0, 255, 0), 5);
            t.is(y.feed(1, 255, 0, 0, 0, 255), 6);
            t.is(y.count(4), 6);
            t.is(y.text(), -100);
        });
        e.promise(7, "BAD: n, any of the five;", t -> {
            t.refusedFor(-2, Scenes.beyond(1, 5), (x, n) -> x.feed(n, 97, 97, 97, 97, 97));
            // also those of the five that would not come
            for (int n = 1; n <= 5; n++) {
                int many = n;
                t.refusedFor(-2, Scenes.beyond(0, 255), (x, b) -> x.feed(many, b, 97, 97, 97, 97));
                t.refusedFor(-2, Scenes.beyond(0, 255), (x, b) -> x.feed(many, 97, b, 97, 97, 97));
                t.refusedFor(-2, Scenes.beyond(0, 255), (x, b) -> x.feed(many, 97, 97, b, 97, 97));
                t.refusedFor(-2, Scenes.beyond(0, 255), (x, b) -> x.feed(many, 97, 97, 97, b, 97));
                t.refusedFor(-2, Scenes.beyond(0, 255), (x, b) -> x.feed(many, 97, 97, 97, 97, b));
            }
        });
        e.promise(7, "FULL: not all of the n have room (none comes).", t -> {
            for (int n = 1; n <= 5; n++) {
                int many = n;
                // there is room for one less than n: a text that lacks three bytes, and blanks
                Edges.Scene almost = x -> {
                    Scenes.feed(x, " ".repeat(160 - many + 1 - 19) + "pull 1;hold 2;jerk ");
                };
                t.refused(-4, almost, x -> x.feed(many, '3', ';', ' ', ' ', ' '));
                AnchorThatDrags x = new AnchorThatDrags();
                almost.on(x);
                t.is(x.count(4), 161 - many);
                t.is(x.feed(many, '3', ';', ' ', ' ', ' '), -4);
                t.is(x.count(4), 161 - many);
                if (many > 1) {
                    t.is(x.feed(many - 1, '3', ';', ' ', ' ', ' '), 160);
                    t.is(x.text(), many > 2 ? 1 : -260);
                }
            }
            t.refused(-4, Scenes.FULL, x -> x.feed(1, 32, 0, 0, 0, 0));
        });
        e.promise(7, "BAD: n, any of the five; FULL: not all of the n have room (none comes).", t -> {
            t.refused(-2, Scenes.FULL, x -> x.feed(6, 32, 0, 0, 0, 0));
            t.refused(-2, Scenes.FULL, x -> x.feed(1, 32, 0, 0, 0, 256));
        });
    }

    private static void text(Edges e) {
        e.promise(8, "THE TAPE, which is empty then (by a FAULT, too), is a TEXT: its number;", t -> {
            AnchorThatDrags x = new AnchorThatDrags();
            Scenes.feed(x, "pull 1" + REST);
            t.is(x.text(), 1);
            t.is(x.count(4), 0);
            t.is(x.count(2), 2);
            // nothing of it is left
            t.is(x.text(), -100);
            Scenes.feed(x, "pull 1;hold");
            t.is(x.text(), -111);
            t.is(x.count(4), 0);
            t.is(x.count(2), 2);
            Scenes.feed(x, "pull 4" + REST);
            t.is(x.text(), 2);
            x.force(2);
            t.is(x.asks(0, 0, 0, 0), 4);
            // of a longer text at fault nothing is in the next one
            AnchorThatDrags y = new AnchorThatDrags();
            t.is(Scenes.text(y, "pull 1;hold 2;jerk -3;x"), -122);
            t.is(Scenes.text(y, "pull 4;hold 5;jerk 6;"), 1);
            y.force(1);
            for (int part = 0; part < 3; part++) {
                t.is(y.asks(part, 0, 0, 0), 4 + part);
            }
            // the law stays till it is told
            t.is(x.force(1), 2);
            t.is(Scenes.text(x, "pull 5" + REST), 3);
            t.is(x.count(3), 1);
            t.is(x.asks(0, 0, 0, 0), 1);
        });
        e.promise(8, "-100 less the place of its FAULT.", t -> {
            AnchorThatDrags x = new AnchorThatDrags();
            t.is(x.text(), -100);
            t.is(Scenes.text(x, "$"), -100);
            t.is(Scenes.text(x, " $"), -101);
            t.is(Scenes.text(x, " ".repeat(159) + "$"), -259);
            t.is(Scenes.text(x, " ".repeat(160)), -260);
            t.is(x.count(2), 1);
        });
        e.promise(8, "FULL (ahead of the FAULT; then THE TAPE stays).", t -> {
            Edges.Scene five = x -> {
                for (int n = 1; n < 6; n++) {
                    Scenes.text(x, "pull " + n + REST);
                }
            };
            Edges.Scene good = x -> {
                five.on(x);
                Scenes.feed(x, "pull 1" + REST);
            };
            Edges.Scene bad = x -> {
                five.on(x);
                Scenes.feed(x, "$");
            };
            t.refused(-4, five, AnchorThatDrags::text);
            t.refused(-4, good, AnchorThatDrags::text);
            t.refused(-4, bad, AnchorThatDrags::text);
            t.refused(-4, Scenes.FULL, AnchorThatDrags::text);
            AnchorThatDrags x = new AnchorThatDrags();
            bad.on(x);
            t.is(x.text(), -4);
            t.is(x.count(4), 1);
            t.is(x.text(), -4);
            t.is(x.feed(1, '$', 0, 0, 0, 0), 2);
        });
    }

    private static void force(Edges e) {
        e.promise(9, "A TEXT is THE LAW: which was.", t -> {
            AnchorThatDrags x = new AnchorThatDrags();
            t.is(x.force(0), 0);
            for (int n = 1; n < 6; n++) {
                Scenes.text(x, "pull " + n + REST);
            }
            t.is(x.force(5), 0);
            t.is(x.count(3), 5);
            t.is(x.asks(0, 2003, 0, 0), 5);
            t.is(x.force(5), 5);
            t.is(x.force(0), 5);
            t.is(x.count(3), 0);
            t.is(x.asks(0, 2003, 0, 0), 60);
        });
        e.promise(9, "BAD.", t -> {
            t.refusedFor(-2, Scenes.NEW, new int[] {-1, 1, 2, 5, 6, Integer.MIN_VALUE, Integer.MAX_VALUE}, AnchorThatDrags::force);
            t.refusedFor(-2, Scenes.BUSY, new int[] {-1, 2, 3, 5, 6, Integer.MIN_VALUE, Integer.MAX_VALUE}, AnchorThatDrags::force);
            t.refusedFor(-2, Scenes.FULL, Scenes.beyond(0, 5), AnchorThatDrags::force);
        });
    }

    private static void asks(Edges e) {
        e.promise(10, "What part 0 pull, 1 hold, 2 jerk says (windArea: 100 times wind, and area; deepOut: 100 times deep, and out; "
            + "0 .. 9999 both; bedHeavy: 10 times bed, 0 .. 3, and heavy).", t -> {
            AnchorThatDrags x = Scenes.under("pull wind+area*9;hold deep+out*9;jerk bed*10+heavy;");
            t.is(x.asks(0, 0, 9999, 39), 0);
            t.is(x.asks(0, 9999, 0, 0), 990);
            t.is(x.asks(0, 9900, 0, 0), 99);
            t.is(x.asks(0, 99, 0, 0), 891);
            t.is(x.asks(0, 100, 0, 0), 1);
            t.is(x.asks(1, 9999, 0, 39), 0);
            t.is(x.asks(1, 0, 9999, 0), 990);
            t.is(x.asks(1, 0, 9900, 0), 99);
            t.is(x.asks(1, 0, 99, 0), 891);
            t.is(x.asks(2, 9999, 9999, 0), 0);
            t.is(x.asks(2, 0, 0, 39), 39);
            t.is(x.asks(2, 0, 0, 9), 9);
            t.is(x.asks(2, 0, 0, 30), 30);
        });
        e.promise(10, "BAD.", t -> {
            t.refusedFor(-2, Scenes.beyond(0, 2), (x, part) -> x.asks(part, 0, 0, 0));
            for (int part = 0; part < 3; part++) {
                int as = part;
                t.refusedFor(-2, Scenes.beyond(0, 9999), (x, v) -> x.asks(as, v, 0, 0));
                t.refusedFor(-2, Scenes.beyond(0, 9999), (x, v) -> x.asks(as, 0, v, 0));
                t.refusedFor(-2, Scenes.beyond(0, 39), (x, v) -> x.asks(as, 0, 0, v));
            }
        });
    }
}
