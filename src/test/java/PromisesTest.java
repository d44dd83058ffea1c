/** For each promise of the document: ordinary inputs, the edges that it names, wrong inputs. */
public final class PromisesTest extends Checks {
    private static void aNewObject() {
        RowPivots x = new RowPivots();
        due("ROWS", x.count(0), 2);
        due("COLUMNS", x.count(1), 2);
        for (int row = 0; row < 2; row++) {
            for (int column = 0; column < 3; column++) {
                ratio("entry", x.entry(row, column, false), x.entry(row, column, true), 0, 1);
            }
        }
        due("count(3)", x.count(3), 0);
        due("count(4)", x.count(4), 0);
        due("fault(0)", x.fault(0), 0);
        due("fault(1)", x.fault(1), NONE);
        due("why(0, 0)", x.why(0, 0), 0);
        for (int k = 0; k < 3; k++) {
            due("again", x.again(k), false);
        }
        due("NONE", NONE, -1);
        due("UNKNOWN", UNKNOWN, -2000000000);
    }

    private static void feed() {
        RowPivots x = new RowPivots();
        for (int k = 1; k <= 20; k++) {
            due("feed", x.feed(SMALL, LARGE, 0, -1, k), 20 * k);
        }
        due("feed a full tape", x.feed(1, 2, 3, 4, 5), NONE);
        due("count(4)", x.count(4), 400);
        due("end", x.end(381), 381);
        due("feed", x.feed(1, 2, 3, 4, 5), NONE);
        due("end", x.end(380), 380);
        due("feed", x.feed(1, 2, 3, 4, 5), 400);
        x.end(0);
        due("highest byte first", x.feed(0x73697a65, 0x2033203b, 0x20202020, 0x20202020, 0), 20);
        due("text", x.text(), NONE);
        due("place of ;", x.fault(1), 7);
        x.feed(0x73697a65, 0x20332034, 0x3b202020, 0x20202020, 0x20202020);
        due("text", x.text(), 0);
        due("ROWS", x.count(0), 3);
        due("COLUMNS", x.count(1), 4);
    }

    private static void end() {
        RowPivots x = new RowPivots();
        due("end(0)", x.end(0), 0);
        due("end(1)", x.end(1), NONE);
        x.feed(0, 0, 0, 0, 0);
        due("end(-1)", x.end(-1), NONE);
        due("end(21)", x.end(21), NONE);
        due("end(least)", x.end(SMALL), NONE);
        due("end(most)", x.end(LARGE), NONE);
        due("count(4)", x.count(4), 20);
        due("end(20)", x.end(20), 20);
        due("end(7)", x.end(7), 7);
        due("count(4)", x.count(4), 7);
        due("end(8)", x.end(8), NONE);
    }

    private static void text() {
        RowPivots x = new RowPivots();
        x.set(0, 0, 5, 1);
        x.scale(1, 0, 1);
        put(x, "size 2 3;row 1 -4/6 0 999/99 -0;set 0 3 8/4;set 0 3 2;");
        due("text()", x.text(), 3);
        due("fault(0)", x.fault(0), 0);
        due("fault(1)", x.fault(1), NONE);
        due("count(4)", x.count(4), 0);
        due("nothing can be UNDONE", x.undo(), NONE);
        due("what was not told is 0", x.entry(0, 0, false), 0);
        ratio("entry", x.entry(1, 0, false), x.entry(1, 0, true), -2, 3);
        ratio("entry", x.entry(1, 2, false), x.entry(1, 2, true), 111, 11);
        ratio("entry", x.entry(1, 3, false), x.entry(1, 3, true), 0, 1);
        ratio("entry", x.entry(0, 3, false), x.entry(0, 3, true), 2, 1);
        due("WHY is of calls alone", x.why(0, 0), 2);
        put(x, " \n size01 002\n;row0-1 2/03 \n -\n4 / 5;");
        due("blanks and none", x.text(), 1);
        ratio("entry", x.entry(0, 0, false), x.entry(0, 0, true), -1, 1);
        ratio("entry", x.entry(0, 1, false), x.entry(0, 1, true), 2, 3);
        ratio("entry", x.entry(0, 2, false), x.entry(0, 2, true), -4, 5);
        put(x, "size 2 2;row 0 2 4 6;row 1 3 5 7;swap 0 1;scale 0 2;add 1 0 -1/2;reduce 1;");
        due("acts", x.text(), 6);
        ratio("entry", x.entry(0, 0, false), x.entry(0, 0, true), 6, 1);
        ratio("entry", x.entry(1, 0, false), x.entry(1, 0, true), 0, 1);
        ratio("entry", x.entry(1, 1, false), x.entry(1, 1, true), 2, 3);
        ratio("entry", x.entry(1, 2, false), x.entry(1, 2, true), 4, 3);
        due("nothing can be UNDONE", x.count(3), 0);
        put(x, "size 6 6;");
        due("no LINES", x.text(), 0);
        due("ROWS", x.count(0), 6);
    }

    private static void fault() {
        RowPivots x = new RowPivots();
        for (int what : new int[] {-1, 2, SMALL, LARGE}) {
            due("fault(" + what + ")", x.fault(what), NONE);
        }
        faulty("", 1, 0);
        faulty("  \n ", 1, 4);
        faulty("size", 1, 4);
        faulty("sizes 2 2;", 1, 0);
        faulty("Size 2 2;", 1, 0);
        faulty("aize 2 2;", 1, 0);
        faulty("siZe 2 2;", 1, 0);
        faulty("size 2 2", 1, 8);
        faulty("size 2 2 ", 1, 9);
        faulty("size -2 2;", 1, 5);
        faulty("size 0 2;", 2, 5);
        faulty("size 2 0;", 2, 7);
        faulty("size 1 7 x", 2, 7);
        faulty("size 0001 2;", 1, 5);
        faulty("size 9999999999999999999 2;", 1, 5);
        faulty("size 2 2;;", 1, 9);
        faulty("size 2 2;size 2 2;", 1, 9);
        faulty("size 2 2;rows 0 1 1 1;", 1, 9);
        faulty("size 2 2;0", 1, 9);
        faulty("size 2 2;\u00ff", 1, 9);
        faulty("size 2 2;\t", 1, 9);
        faulty("size 2 2;row 2 1 1 1;", 2, 13);
        faulty("size 2 2;row 0 1 1 1 1;", 1, 21);
        faulty("size 2 2;row 0 1 1;", 1, 18);
        faulty("size 2 2;row 0 1 --1 1;", 1, 18);
        faulty("size 2 2;row 0 1/2/3 1 1;", 1, 18);
        faulty("size 2 2;row 0 1/-2 1 1;", 1, 17);
        faulty("size 2 2;row 0 1/100 1 1;", 2, 17);
        faulty("size 2 2;row 0 1/0 1 1;", 2, 17);
        faulty("size 2 2;row 0 1/1000 1 1;", 1, 17);
        faulty("size 2 2;set 0 3 1;", 2, 15);
        faulty("size 2 2;set 2 0 1;", 2, 13);
        faulty("size 2 2;swap 0 2;", 2, 16);
        faulty("size 2 2;swap 2 0;", 2, 14);
        faulty("size 2 2;scale 2 1;", 2, 15);
        faulty("size 2 2;add 0 2 1;", 2, 15);
        faulty("size 2 2;add 2 0 1;", 2, 13);
        faulty("size 2 2;reduce 3;", 2, 16);
        faulty("size 2 2;reduce -1;", 1, 16);
        faulty("size 2 2;reduce 0;", 3, 9);
        faulty("size 2 2;swap 0 0;", 3, 9);
        faulty("size 2 2;swap 0 1;row", 3, 9);
        faulty("size 2 2;add 0 0 1/0;", 2, 19);
        faulty("size 2 2;add 0 0 x;", 1, 17);
        faulty("size 2 2;set 0 0 1; scale 0 3/3;", 3, 20);
        faulty("size 2 2;set 0 0 1; scale 0 0;", 3, 20);
        faulty("size 1 1;set 0 1 999;scale 0 999;scale 0 999;scale 0 999;", 3, 45);
        faulty("size 1 1;swap 0 0", 1, 17);
        faulty("size 1 1;add 0 0 1", 1, 18);
        faulty("size 1 1;add 0 0 1 ", 1, 19);
        faulty("size 1 1;add 0 0 1 1;", 1, 19);
        faulty("size 1 1;reduce 0 row", 1, 18);
        faulty("size 1 1;scale 0 1 1000;", 1, 19);
        faulty("size 1 1;scale 0 1/1 ;$", 3, 9);
        due("of the latest text()", of("size 1 1;").fault(0), 0);
    }

    private static void set() {
        RowPivots x = new RowPivots();
        due("set", x.set(0, 0, -999, 99), 0);
        ratio("entry", x.entry(0, 0, false), x.entry(0, 0, true), -111, 11);
        due("it is that", x.set(0, 0, -222, 22), 2);
        due("the SIDE", x.set(1, 2, 3, 9), 0);
        ratio("entry", x.entry(1, 2, false), x.entry(1, 2, true), 1, 3);
        due("0 is 0 by 1", x.set(1, 2, 0, 99), 0);
        ratio("entry", x.entry(1, 2, false), x.entry(1, 2, true), 0, 1);
        due("it is 0", x.set(1, 2, 0, 5), 2);
        int[][] none = {{-1, 0, 1, 1}, {2, 0, 1, 1}, {0, -1, 1, 1}, {0, 3, 1, 1}, {0, 0, 1000, 1},
            {0, 0, -1000, 1}, {0, 0, 1, 0}, {0, 0, 1, 100}, {0, 0, 1, -1}, {SMALL, LARGE, SMALL, 0}};
        for (int[] a : none) {
            due("no such", x.set(a[0], a[1], a[2], a[3]), 1);
        }
        due("count(3)", x.count(3), 3);
    }

    private static void swap() {
        RowPivots x = of("size 3 2;row 0 1 2 3;row 1 1 2 3;row 2 1 2 4;");
        due("alike", x.swap(0, 1), 2);
        due("one and the same", x.swap(2, 2), 2);
        due("no such", x.swap(0, 3), 1);
        due("no such", x.swap(-1, 0), 1);
        due("no such, twice", x.swap(LARGE, LARGE), 1);
        due("but for the SIDE alike", x.swap(0, 2), 0);
        due("SIDE", x.entry(0, 2, false), 4);
        due("SIDE", x.entry(2, 2, false), 3);
    }

    private static void scale() {
        RowPivots x = of("size 2 2;row 0 1/2 0 -3;");
        due("scale", x.scale(0, -2, 6), 0);
        ratio("entry", x.entry(0, 0, false), x.entry(0, 0, true), -1, 6);
        ratio("entry", x.entry(0, 1, false), x.entry(0, 1, true), 0, 1);
        ratio("SIDE", x.entry(0, 2, false), x.entry(0, 2, true), 1, 1);
        due("by 0", x.scale(0, 0, 5), 2);
        due("by 1", x.scale(0, 7, 7), 2);
        due("a ROW of 0s", x.scale(1, 2, 1), 2);
        due("by -1", x.scale(0, -7, 7), 0);
        due("no such", x.scale(2, 2, 1), 1);
        due("no such", x.scale(-1, 0, 1), 1);
        due("no such", x.scale(0, 1000, 1), 1);
        due("no such", x.scale(0, 2, 0), 1);
        x = of("size 1 2;set 0 2 1;");
        due("0s but for the SIDE", x.scale(0, 2, 1), 0);
        x = of("size 1 2;row 0 1 1 1/64;");
        due("lower 64 by 64", x.scale(0, 1, 64), 0);
        due("lower 64 by 64 by 64", x.scale(0, 1, 64), 0);
        due("lower 64 four times", x.scale(0, 1, 64), 0);
        due("lower 64 five times: above 1000000000", x.scale(0, 1, 64), 3);
        due("ROW", x.why(1, 1), 0);
        due("COLUMN", x.why(1, 2), 2);
        x = of("size 1 1;row 0 0 100;scale 0 500;scale 0 500;");
        due("25000000 by 40", x.scale(0, 40, 1), 0);
        due("just 1000000000 is not LONG", x.entry(0, 1, false), 1000000000);
        due("by -1", x.scale(0, -1, 1), 0);
        due("just -1000000000", x.entry(0, 1, false), -1000000000);
        due("by 99/98", x.scale(0, 99, 98), 3);
        x = of("size 1 1;row 0 0 1;scale 0 1/50;scale 0 1/50;scale 0 1/50;scale 0 1/50;scale 0 1/80;");
        due("1 by 500000000, by 2", x.scale(0, 1, 2), 0);
        due("a lower number of just 1000000000", x.entry(0, 1, true), 1000000000);
        due("by 1/2", x.scale(0, 1, 2), 3);
    }

    private static void add() {
        RowPivots x = of("size 3 2;row 0 1 2 3;row 1 1/2 0 0;");
        due("add", x.add(1, 0, -1, 2), 0);
        due("pattern", x.pattern(1, false), 6);
        ratio("SIDE", x.entry(1, 2, false), x.entry(1, 2, true), -3, 2);
        due("itself", x.add(0, 0, 1, 1), 2);
        due("0 times", x.add(1, 0, 0, 1), 2);
        due("of a ROW of 0s", x.add(0, 2, 1, 1), 2);
        due("to a ROW of 0s", x.add(2, 0, 1, 1), 0);
        due("no such", x.add(3, 0, 1, 1), 1);
        due("no such", x.add(0, -1, 1, 1), 1);
        due("no such, twice", x.add(3, 3, 1, 1), 1);
        due("no such", x.add(0, 1, 1, 100), 1);
        x = of("size 2 2;row 0 1 999 1;row 1 0 -500 1;scale 0 999;scale 0 999;");
        due("what is added is LONG, what comes too", x.add(1, 0, 2, 1), 3);
        due("ROW", x.why(1, 1), 1);
        due("COLUMN", x.why(1, 2), 1);
        x = of("size 2 1;row 0 500 0;row 1 -500 0;scale 0 999;scale 0 999;scale 1 999;scale 1 999;");
        due("what is added is LONG, what comes is not", x.add(1, 0, 3, 1), 3);
        due("COLUMN", x.why(1, 2), 0);
        due("as 1 time is well", x.add(1, 0, 1, 1), 0);
        due("it comes to 0", x.entry(1, 0, false), 0);
    }

    /** BROKEN by RULES 0 and 1, at the SIDE of ROW 1, and not by RULE 2. */
    private static final String LONG_ON_THE_SIDE =
        "size 2 1;row 0 0 999;scale 0 999;scale 0 999;set 0 0 1;row 1 2 0;";

    private static void reduce() {
        RowPivots x = of("size 2 2;row 0 0 3 6;row 1 2 1 4;");
        due("no such", x.reduce(-1), 1);
        due("no such", x.reduce(3), 1);
        due("nothing to do", x.reduce(0), 2);
        due("by RULE 1 the PIVOT is in ROW 0", x.reduce(1), 0);
        due("entry", x.entry(1, 1, false), 0);
        due("SIDE", x.entry(1, 2, false), 2);
        due("undo", x.undo(), 0);
        due("entry", x.entry(1, 1, false), 1);
        due("by RULE 2", x.reduce(2), 0);
        due("again", x.reduce(2), 2);
        RowPivots y = of("size 2 1;row 0 1/99 1;row 1 999 1;scale 0 1/99;scale 0 1/99;scale 1 999;");
        due("the FACTOR is LONG", y.reduce(0), 3);
        due("ROW", y.why(1, 1), 1);
        due("COLUMN", y.why(1, 2), 0);
        due("the MATRIX stays", y.entry(1, 0, false), 998001);
        due("by RULE 2 it is LONG too", y.reduce(2), 3);
        due("ROW", y.why(1, 1), 0);
        due("nothing to be UNDONE", y.count(3), 0);
        y = of(LONG_ON_THE_SIDE);
        due("what is added to the SIDE is LONG", y.reduce(0), 3);
        due("ROW", y.why(1, 1), 1);
        due("COLUMN", y.why(1, 2), 1);
        due("by RULE 2 it is not", y.reduce(2), 0);
        due("SIDE", y.entry(0, 1, false), 997002999);
    }

    private static void why() {
        RowPivots x = new RowPivots();
        for (int what = 0; what < 3; what++) {
            due("not REFUSED", x.why(0, what), 0);
            due("not REFUSED", x.why(1, what), 0);
        }
        due("another level", x.why(2, 0), NONE);
        due("another level", x.why(-1, 0), NONE);
        due("another what", x.why(0, 3), NONE);
        due("another what", x.why(1, -1), NONE);
        x.swap(0, 9);
        due("reason", x.why(0, 0), 1);
        due("no ROW", x.why(0, 1), NONE);
        due("no COLUMN", x.why(0, 2), NONE);
        due("no level 1", x.why(1, 0), 0);
        due("no level 1", x.why(1, 1), 0);
        x = of("size 2 2;row 1 0 999 0;scale 1 999;scale 1 999;");
        due("scale", x.scale(1, 999, 1), 3);
        due("reason", x.why(0, 0), 3);
        due("of 3", x.why(1, 0), 4);
        due("ROW", x.why(1, 1), 1);
        due("COLUMN", x.why(1, 2), 1);
        due("of 3 itself NONE", x.why(0, 1), NONE);
        due("of 3 itself NONE", x.why(0, 2), NONE);
        x.undo();
        due("undo is no ACT", x.why(0, 0), 3);
        x.set(0, 0, 1, 1);
        due("not REFUSED", x.why(0, 0), 0);
        due("not REFUSED", x.why(1, 2), 0);
    }

    private static void undo() {
        RowPivots x = new RowPivots();
        due("none", x.undo(), NONE);
        for (int k = 1; k <= 25; k++) {
            due("set", x.set(0, 0, k, 1), 0);
            due("count(3)", x.count(3), Math.min(k, 20));
        }
        x.set(0, 0, 25, 1);
        due("a REFUSED one does not count", x.count(3), 20);
        for (int k = 1; k <= 20; k++) {
            due("undo", x.undo(), 20 - k);
            due("entry", x.entry(0, 0, false), 25 - k);
        }
        due("none", x.undo(), NONE);
        due("entry", x.entry(0, 0, false), 5);
        x.set(1, 1, 1, 1);
        x.swap(0, 1);
        x.scale(1, 2, 1);
        x.add(0, 1, 1, 1);
        due("reduce", x.reduce(0), 0);
        due("undo", x.undo(), 4);
        due("undo", x.undo(), 3);
        due("undo", x.undo(), 2);
        due("entry", x.entry(1, 0, false), 5);
        due("undo", x.undo(), 1);
        due("undo", x.undo(), 0);
        due("entry", x.entry(1, 1, false), 0);
        due("entry", x.entry(0, 0, false), 5);
    }

    private static void entry() {
        RowPivots x = of("size 2 3;row 1 -6/4 0/9 7 5/10;");
        ratio("entry", x.entry(1, 0, false), x.entry(1, 0, true), -3, 2);
        ratio("entry", x.entry(1, 1, false), x.entry(1, 1, true), 0, 1);
        ratio("entry", x.entry(1, 2, false), x.entry(1, 2, true), 7, 1);
        ratio("SIDE", x.entry(1, 3, false), x.entry(1, 3, true), 1, 2);
        due("none", x.entry(1, 4, false), UNKNOWN);
        due("none", x.entry(1, -1, true), UNKNOWN);
        due("none", x.entry(2, 0, false), UNKNOWN);
        due("none", x.entry(-1, 0, false), UNKNOWN);
        due("none", x.entry(SMALL, LARGE, true), UNKNOWN);
    }

    private static void count() {
        RowPivots x = of("size 3 4;row 0 1 1 1 0 1;row 1 1 1 0 0 1;row 2 1 0 2 0 0;");
        due("ROWS", x.count(0), 3);
        due("COLUMNS", x.count(1), 4);
        due("not 0", x.count(2), 7);
        due("UNDONE", x.count(3), 0);
        due("tape", x.count(4), 0);
        due("least FILL", x.count(5), 1);
        due("another", x.count(6), NONE);
        due("another", x.count(-1), NONE);
        x = of("size 2 1;row 0 1/99 1;row 1 999 1;scale 0 1/99;scale 0 1/99;scale 1 999;");
        due("all are BROKEN", x.count(5), NONE);
        due("RULES 0 and 1 are BROKEN", of(LONG_ON_THE_SIDE).count(5), 2);
        due("all alike", new RowPivots().count(5), 0);
    }

    private static void pattern() {
        RowPivots x = of("size 2 3;row 0 1 0 -1/2 4;row 1 0 0 1 0;");
        due("ROW", x.pattern(0, false), 13);
        due("ROW", x.pattern(1, false), 4);
        due("COLUMN", x.pattern(0, true), 1);
        due("COLUMN", x.pattern(1, true), 0);
        due("COLUMN", x.pattern(2, true), 3);
        due("SIDE", x.pattern(3, true), 1);
        due("none", x.pattern(4, true), NONE);
        due("none", x.pattern(-1, true), NONE);
        due("none", x.pattern(2, false), NONE);
        due("none", x.pattern(-1, false), NONE);
    }

    private static void pivotIs(RowPivots x, int rule, int k, int... six) {
        for (int what = 0; what < 6; what++) {
            due("pivot(" + rule + ", " + k + ", " + what + ")", x.pivot(rule, k, what), six[what]);
        }
    }

    private static void pivot() {
        RowPivots x = of("size 3 3;row 0 1 1 1 0;row 1 1 1 0 0;row 2 1 0 2 0;");
        pivotIs(x, 0, 0, 0, 0, 2, 4, 1, 1);
        pivotIs(x, 0, 1, 2, 1, 0, 0, -1, 1);
        pivotIs(x, 0, 2, 1, 2, 0, 0, -1, 1);
        pivotIs(x, 1, 0, 1, 1, 0, 1, 1, 1);
        pivotIs(x, 1, 1, 0, 2, 0, 0, 1, 1);
        pivotIs(x, 1, 2, 2, 0, 0, 0, 1, 1);
        due("RANK", x.pivot(2, -1, 0), 3);
        due("FILL", x.pivot(0, -1, 1), 2);
        due("none", x.pivot(0, -1, 2), UNKNOWN);
        due("none", x.pivot(0, -1, -1), UNKNOWN);
        due("none", x.pivot(0, 3, 0), UNKNOWN);
        due("none", x.pivot(0, -2, 0), UNKNOWN);
        due("none", x.pivot(0, 0, 6), UNKNOWN);
        due("none", x.pivot(0, 0, -1), UNKNOWN);
        due("no RULE", x.pivot(3, 0, 0), UNKNOWN);
        due("no RULE", x.pivot(-1, -1, 0), UNKNOWN);
        x = of("size 2 2;row 0 1/2 -2/3 0;row 1 2/3 1/3 0;");
        pivotIs(x, 2, 0, 0, 1, 0, 1, -2, 3);
        pivotIs(x, 2, 1, 1, 0, 0, 0, 11, 12);
        x = of("size 2 1;row 0 1/99 1;row 1 999 1;scale 0 1/99;scale 0 1/99;scale 1 999;");
        due("BROKEN", x.pivot(0, 0, 0), UNKNOWN);
        due("BROKEN", x.pivot(0, -1, 0), UNKNOWN);
    }

    private static final String BROKEN =
        "size 2 2;row 0 1/99 1 1;row 1 999 1 1;scale 0 1/99;scale 0 1/99;scale 1 999;";

    private static void kind() {
        due("1", of("size 2 2;row 0 1 1 1;row 1 1 2 1;").kind(), 1);
        due("2", of("size 2 2;row 0 1 1 1;row 1 2 2 2;").kind(), 2);
        due("0", of("size 2 2;row 0 1 1 1;row 1 2 2 1;").kind(), 0);
        due("0 with all PIVOTS", of("size 2 1;row 0 1 1;row 1 2 1;").kind(), 0);
        due("1 with more ROWS", of("size 2 1;row 0 1 1;row 1 2 2;").kind(), 1);
        due("2 with 0s", new RowPivots().kind(), 2);
        due("BROKEN", of(BROKEN).kind(), UNKNOWN);
    }

    private static void solution() {
        RowPivots x = of("size 3 3;row 0 2 1 -1 8;row 1 -3 -1 2 -11;row 2 -2 1 2 -3;");
        ratio("x0", x.solution(0, false), x.solution(0, true), 2, 1);
        ratio("x1", x.solution(1, false), x.solution(1, true), 3, 1);
        ratio("x2", x.solution(2, false), x.solution(2, true), -1, 1);
        due("no such", x.solution(3, false), UNKNOWN);
        due("no such", x.solution(-1, true), UNKNOWN);
        x = of("size 1 3;row 0 0 3 5 4;");
        ratio("FREE", x.solution(0, false), x.solution(0, true), 0, 1);
        ratio("x1", x.solution(1, false), x.solution(1, true), 4, 3);
        ratio("FREE", x.solution(2, false), x.solution(2, true), 0, 1);
        due("KIND 0", of("size 2 1;row 0 1 1;row 1 2 1;").solution(0, false), UNKNOWN);
        due("BROKEN", of(BROKEN).solution(0, false), UNKNOWN);
        x = of("size 2 2;row 0 1 0 5;row 1 0 1/99 999;scale 1 1/99;scale 1 1/99;scale 1 999/2;");
        due("KIND", x.kind(), 1);
        ratio("x1", x.solution(1, false), x.solution(1, true), 98901, 1);
        due("not LONG", of("size 1 1;row 0 1/99 0;scale 0 1/99;scale 0 1/99;set 0 1 998;")
            .solution(0, false), 968358402);
        due("BROKEN at the SIDE", of(LONG_ON_THE_SIDE).solution(0, false), UNKNOWN);
        due("LONG", of("size 1 1;row 0 1/99 0;scale 0 1/99;scale 0 1/99;scale 0 1/99;set 0 1 99;")
            .solution(0, false), UNKNOWN);
    }

    /** What COLUMN 1 has is LONG: a ROW with 0 there does not ask for it, another one does. */
    private static void longOnTheWay() {
        String small = "scale 1 1/99;scale 1 1/99;scale 1 1/99;";
        RowPivots x = of("size 2 3;row 0 1 0 0 5;row 1 0 1/99 0 0;" + small + "set 1 3 99;");
        due("KIND", x.kind(), 2);
        due("LONG", x.solution(1, false), UNKNOWN);
        due("LONG", x.solution(1, true), UNKNOWN);
        ratio("over an ENTRY of 0", x.solution(0, false), x.solution(0, true), 5, 1);
        ratio("FREE", x.solution(2, false), x.solution(2, true), 0, 1);
        ratio("residue over 0", x.residue(0, false), x.residue(0, true), 0, 1);
        due("residue", x.residue(1, false), UNKNOWN);
        due("would over 0", x.would(3, 1, 1, 0, false), 5);
        due("would", x.would(3, 1, 1, 1, false), UNKNOWN);
        due("would not be LONG", x.would(3, 1, 99, 1, false), 96059601);
        x.swap(0, 1);
        due("now it is solved before", x.solution(0, false), 5);
        due("LONG", x.solution(1, false), UNKNOWN);

        x = of("size 2 3;row 0 1 1 0 5;row 1 0 1/99 0 0;" + small + "set 1 3 99;");
        due("LONG", x.solution(1, false), UNKNOWN);
        due("over an ENTRY that is not 0", x.solution(0, false), UNKNOWN);
        due("residue", x.residue(0, false), UNKNOWN);

        x = of("size 2 3;row 0 1 0 1 5;row 1 0 1/99 0 0;" + small + "set 1 2 99;");
        due("NULL LONG", x.zero(2, 1, false), UNKNOWN);
        ratio("NULL over an ENTRY of 0", x.zero(2, 0, false), x.zero(2, 0, true), -1, 1);
        ratio("NULL of itself", x.zero(2, 2, false), x.zero(2, 2, true), 1, 1);

        x = of("size 2 2;row 1 0 1/99 0;" + small + "set 0 0 1;set 1 0 11;");
        due("INVERSE LONG", x.inverse(1, 0, false), UNKNOWN);
        ratio("INVERSE over 0", x.inverse(0, 0, false), x.inverse(0, 0, true), 1, 1);
        due("INVERSE not LONG", x.inverse(1, 1, false), 96059601);
    }

    private static void free() {
        due("none", of("size 1 1;set 0 0 1;").free(), 0);
        due("all", of("size 1 6;").free(), 63);
        due("some", of("size 2 4;row 0 0 1 1 1 0;row 1 0 1 1 2 0;").free(), 1 + 4);
        due("KIND 0", of("size 2 2;row 0 1 1 1;row 1 1 1 2;").free(), 2);
        due("BROKEN", of(BROKEN).free(), UNKNOWN);
    }

    private static void zero() {
        RowPivots x = of("size 2 4;row 0 2 1 0 3 9;row 1 0 0 4 1 7;");
        due("free", x.free(), 2 + 8);
        ratio("of itself", x.zero(1, 1, false), x.zero(1, 1, true), 1, 1);
        ratio("of a PIVOT's", x.zero(1, 0, false), x.zero(1, 0, true), -1, 2);
        ratio("of another FREE one", x.zero(1, 3, false), x.zero(1, 3, true), 0, 1);
        ratio("of a PIVOT's", x.zero(1, 2, false), x.zero(1, 2, true), 0, 1);
        ratio("of a PIVOT's", x.zero(3, 0, false), x.zero(3, 0, true), -3, 2);
        ratio("of a PIVOT's", x.zero(3, 2, false), x.zero(3, 2, true), -1, 4);
        due("not FREE", x.zero(0, 0, false), UNKNOWN);
        due("no such", x.zero(4, 0, false), UNKNOWN);
        due("no such", x.zero(-1, 0, false), UNKNOWN);
        due("no such", x.zero(1, 4, false), UNKNOWN);
        due("no such", x.zero(1, -1, false), UNKNOWN);
        due("no such", x.zero(LARGE, SMALL, false), UNKNOWN);
        due("KIND 0", of("size 2 2;row 0 1 1 1;row 1 1 1 2;").zero(1, 0, false), -1);
        due("BROKEN", of(BROKEN).zero(0, 0, false), UNKNOWN);
    }

    private static void determinant() {
        RowPivots x = of("size 3 3;row 0 0 2 0 0;row 1 0 0 3 0;row 2 5/7 0 0 0;");
        ratio("turned twice", x.determinant(false), x.determinant(true), 30, 7);
        x.swap(0, 1);
        ratio("turned thrice", x.determinant(false), x.determinant(true), -30, 7);
        x = of("size 2 2;row 0 1 2 0;row 1 2 4 9;");
        ratio("RANK less", x.determinant(false), x.determinant(true), 0, 1);
        due("none", of("size 2 3;").determinant(false), UNKNOWN);
        due("none", of("size 3 2;").determinant(true), UNKNOWN);
        due("BROKEN", of(BROKEN).determinant(false), UNKNOWN);
        x = of("size 3 3;set 0 0 999;set 1 1 999;set 2 2 999;scale 0 999;");
        due("998001 by 999 by 999: LONG", x.determinant(false), UNKNOWN);
        x = of("size 4 4;set 0 0 999;set 1 1 999;set 2 2 2;set 3 3 1/9;scale 0 999;");
        due("on the way LONG", x.determinant(false), UNKNOWN);
        x = of("size 4 4;set 0 0 999;set 1 1 999;set 2 2 1/9;set 3 3 2;scale 0 999;");
        due("in this order not", x.determinant(false), 221556222);
        due("BROKEN at the SIDE", of("size 2 2;row 0 0 0 999;scale 0 999;scale 0 999;"
            + "set 0 0 1;set 0 1 1;row 1 2 1 0;").determinant(false), UNKNOWN);
        x = of("size 3 3;set 0 0 999;set 1 1 1/99;set 2 2 999;scale 0 999;");
        ratio("not LONG", x.determinant(false), x.determinant(true), 110778111, 11);
        x = of("size 3 3;row 0 1 2 3 1;row 1 4 5 6 1;row 2 7 8 10 1;");
        due("ordinary", x.determinant(false), -3);
    }

    private static void inverse() {
        RowPivots x = of("size 2 2;row 0 2 1 9;row 1 5 3 9;");
        int[][] want = {{3, -1}, {-5, 2}};
        for (int row = 0; row < 2; row++) {
            for (int column = 0; column < 2; column++) {
                ratio("inverse", x.inverse(row, column, false), x.inverse(row, column, true),
                    want[row][column], 1);
            }
        }
        due("none such", x.inverse(2, 0, false), UNKNOWN);
        due("none such", x.inverse(0, 2, false), UNKNOWN);
        due("none such", x.inverse(-1, 0, false), UNKNOWN);
        due("none such", x.inverse(0, -1, true), UNKNOWN);
        due("RANK less", of("size 2 2;row 0 1 1 0;row 1 1 1 0;").inverse(0, 0, false), UNKNOWN);
        due("not square", of("size 1 2;row 0 1 1 0;").inverse(0, 0, false), UNKNOWN);
        due("BROKEN", of(BROKEN).inverse(0, 0, false), UNKNOWN);
    }

    private static void minor() {
        RowPivots x = of("size 3 3;row 0 1 2 3 1;row 1 4 5 6 1;row 2 7 8 10/3 1;");
        ratio("minor", x.minor(0, 0, false), x.minor(0, 0, true), -94, 3);
        ratio("minor", x.minor(0, 1, false), x.minor(0, 1, true), 86, 3);
        ratio("minor", x.minor(1, 2, false), x.minor(1, 2, true), 6, 1);
        ratio("minor", x.minor(2, 2, false), x.minor(2, 2, true), -3, 1);
        due("none such", x.minor(3, 0, false), UNKNOWN);
        due("none such", x.minor(0, 3, false), UNKNOWN);
        due("none such", x.minor(-1, 0, true), UNKNOWN);
        due("none such", x.minor(0, -1, true), UNKNOWN);
        due("not square", of("size 2 3;").minor(0, 0, false), UNKNOWN);
        x = of("size 1 1;");
        ratio("of 1 ROW", x.minor(0, 0, false), x.minor(0, 0, true), 1, 1);
        due("of 1 ROW none such", x.minor(0, 1, false), UNKNOWN);
    }

    private static void cramer() {
        RowPivots x = of("size 2 2;row 0 2 1 5;row 1 1 3 10/3;");
        ratio("cramer", x.cramer(0, false), x.cramer(0, true), 35, 3);
        ratio("cramer", x.cramer(1, false), x.cramer(1, true), 5, 3);
        due("the SIDE is none", x.cramer(2, false), UNKNOWN);
        due("none such", x.cramer(-1, false), UNKNOWN);
        due("not square", of("size 2 1;").cramer(0, false), UNKNOWN);
        x = of("size 2 2;row 0 1 2 0;row 1 1 3 0;");
        ratio("SIDES 0", x.cramer(0, false), x.cramer(0, true), 0, 1);
        x = of("size 2 2;row 0 0 0 999;scale 0 999;scale 0 999;set 0 0 1;set 0 1 1;row 1 2 1 0;");
        due("the SIDE breaks what goes over it", x.determinant(false), UNKNOWN);
        due("but the minor has none", x.minor(0, 1, false), -2);
        due("nor the cramer", x.cramer(0, false), 997002999);
    }

    private static void would() {
        RowPivots x = of("size 2 2;row 0 2 1 5;row 1 1 3 10;");
        ratio("COLUMN 1", x.would(1, 2, 3, 1, false), x.would(1, 2, 3, 1, true), 2, 3);
        ratio("COLUMN 1", x.would(1, 2, 3, 0, false), x.would(1, 2, 3, 0, true), 0, 1);
        ratio("SIDE", x.would(2, -1, 2, 1, false), x.would(2, -1, 2, 1, true), -3, 2);
        ratio("0 times", x.would(2, 0, 2, 1, false), x.would(2, 0, 2, 1, true), 0, 1);
        due("none such", x.would(3, 1, 1, 0, false), UNKNOWN);
        due("none such", x.would(-1, 1, 1, 0, false), UNKNOWN);
        due("none such", x.would(0, 1000, 1, 0, false), UNKNOWN);
        due("none such", x.would(0, 1, 0, 0, false), UNKNOWN);
        due("none such", x.would(0, 1, 1, 2, false), UNKNOWN);
        due("none such", x.would(0, 1, 1, -1, false), UNKNOWN);
        due("the MATRIX stays", x.entry(0, 2, false), 5);
        x = of("size 2 2;row 0 1 1 1;row 1 1 1 2;");
        due("KIND 0", x.would(2, 1, 1, 0, false), UNKNOWN);
        due("not KIND 0 then", x.would(0, 7, 1, 0, false), 7);
        x = of("size 1 1;row 0 1 999;scale 0 999;scale 0 99;");
        due("LONG", x.would(1, 999, 1, 0, false), UNKNOWN);
        due("BROKEN", of(BROKEN).would(2, 1, 1, 0, false), UNKNOWN);
    }

    private static void ranked() {
        RowPivots x = of("size 2 2;row 0 2 1 5;row 1 1 3 10;");
        due("1", x.ranked(1, 0, 6, 1), 1);
        due("2", x.ranked(1, 0, 12, 99), 2);
        due("as it is", x.ranked(0, 0, 2, 1), 2);
        due("the SIDE", x.ranked(0, 2, 1, 1), UNKNOWN);
        due("none such", x.ranked(2, 0, 1, 1), UNKNOWN);
        due("none such", x.ranked(0, -1, 1, 1), UNKNOWN);
        due("none such", x.ranked(0, 0, -1000, 1), UNKNOWN);
        due("none such", x.ranked(0, 0, 1, 100), UNKNOWN);
        due("the MATRIX stays", x.entry(1, 0, false), 1);
        due("BROKEN", of(BROKEN).ranked(0, 1, 1, 1), UNKNOWN);
    }

    private static void residue() {
        RowPivots x = of("size 3 2;row 0 2 1 5;row 1 1 3 10;row 2 3 4 15;");
        for (int row = 0; row < 3; row++) {
            ratio("residue", x.residue(row, false), x.residue(row, true), 0, 1);
        }
        due("no such", x.residue(3, false), UNKNOWN);
        due("no such", x.residue(-1, false), UNKNOWN);
        due("KIND 0", of("size 2 1;row 0 1 1;row 1 2 1;").residue(0, false), UNKNOWN);
        due("BROKEN", of(BROKEN).residue(0, false), UNKNOWN);
    }

    private static void imageAndAgain() {
        RowPivots x = new RowPivots();
        due("image(-1)", x.image(-1), false);
        due("image(3)", x.image(3), false);
        due("again(3)", x.again(3), false);
        due("again(-1)", x.again(-1), false);
        put(x, "size 9");
        x.text();
        put(x, "size 1 3;");
        x.set(0, 0, 4, 7);
        x.swap(0, 5);
        due("image(2)", x.image(2), true);
        due("it can be UNDONE still", x.count(3), 1);
        x.text();
        x.set(0, 1, 1, 1);
        due("image(0)", x.image(0), true);
        due("again(1)", x.again(1), false);
        due("again(2)", x.again(2), true);
        due("ROWS", x.count(0), 2);
        due("tape", x.count(4), 9);
        due("fault(0)", x.fault(0), 2);
        due("fault(1)", x.fault(1), 5);
        due("why", x.why(0, 0), 1);
        ratio("entry", x.entry(0, 0, false), x.entry(0, 0, true), 4, 7);
        due("nothing can be UNDONE", x.undo(), NONE);
        due("the bytes, too", x.text(), 0);
        due("COLUMNS", x.count(1), 3);
        due("again(0)", x.again(0), true);
        due("entry", x.entry(0, 1, false), 1);
        due("fault(0)", x.fault(0), 0);
        x.set(0, 1, 2, 1);
        due("image(0) anew", x.image(0), true);
        x.set(0, 1, 3, 1);
        due("again(0)", x.again(0), true);
        due("entry", x.entry(0, 1, false), 2);
        for (int k = 0; k < 3; k++) {
            x.feed(k, k, k, k, k);
        }
        x.text();
        due("again(2) once more", x.again(2), true);
        due("tape", x.count(4), 9);
        due("its own bytes", x.text(), 0);
        x = of("size 3 3;row 2 0 1 0 0;scale 2 999;scale 2 999;scale 2 999;");
        x.scale(2, 999, 1);
        x.image(1);
        x.set(0, 0, 1, 1);
        x.again(1);
        due("why of 3", x.why(1, 0), 4);
        due("ROW", x.why(1, 1), 2);
        due("COLUMN", x.why(1, 2), 1);
    }

    private static void name(int number, String told) {
        name("promise " + number + " " + told);
    }

    private static void runAll() {
        name(1, "a new object");
        aNewObject();
        name(2, "feed");
        feed();
        name(3, "end");
        end();
        name(4, "text");
        text();
        name(5, "fault");
        fault();
        name(6, "set");
        set();
        name(7, "swap");
        swap();
        name(8, "scale");
        scale();
        name(9, "add");
        add();
        name(10, "reduce");
        reduce();
        name(11, "why");
        why();
        name(12, "undo");
        undo();
        name(13, "entry");
        entry();
        name(14, "count");
        count();
        name(15, "pattern");
        pattern();
        name(16, "pivot");
        pivot();
        name(17, "kind");
        kind();
        name(18, "solution");
        solution();
        longOnTheWay();
        name(19, "free");
        free();
        name(20, "zero");
        zero();
        name(21, "determinant");
        determinant();
        name(22, "inverse");
        inverse();
        name(23, "minor");
        minor();
        name(24, "cramer");
        cramer();
        name(25, "would");
        would();
        name(26, "ranked");
        ranked();
        name(27, "residue");
        residue();
        name(28, "image, 29 again");
        imageAndAgain();
    }

    public static void main(String[] args) {
        runAll();
        finish();
    }
}
