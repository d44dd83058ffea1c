import java.util.function.Supplier;

/** Promises 6 to 12, and what Terms 1 says of ACTS: one test for each sentence with an edge. */
public final class ActEdgesTest extends Checks {
    private static final int[][] NOT_TOLD = {{1000, 1}, {-1000, 1}, {1, 0}, {1, 100}, {1, -1},
        {0, 0}, {0, 100}, {1000, 1000}, {-2, -2}, {SMALL, 1}, {LARGE, 1}, {1, SMALL}, {1, LARGE}};
    private static final int[][] JUST_TOLD = {{999, 1}, {-999, 1}, {1, 99}, {-1, 99}, {999, 98},
        {-997, 99}};

    // ---- told fractions

    @Sentence(promise = 6, says = "TOLD fractions: upper -999 to 999, lower 1 to 99.")
    static void setToldFractions() {
        for (int[] f : JUST_TOLD) {
            RowPivots x = rich();
            due("set " + f[0] + "/" + f[1], x.set(0, 0, f[0], f[1]), 0);
            entryIs(x, 0, 0, f[0], f[1]);
        }
        for (int[] f : NOT_TOLD) {
            refused("set " + f[0] + "/" + f[1], x -> x.set(0, 0, f[0], f[1]), 1);
        }
    }

    @Sentence(promise = 8, says = "TOLD fractions: upper -999 to 999, lower 1 to 99.")
    static void scaleToldFractions() {
        for (int[] f : JUST_TOLD) {
            RowPivots x = rich();
            due("scale " + f[0] + "/" + f[1], x.scale(0, f[0], f[1]), 0);
            entryIs(x, 0, 1, f[0], f[1]);
        }
        for (int[] f : NOT_TOLD) {
            refused("scale " + f[0] + "/" + f[1], x -> x.scale(0, f[0], f[1]), 1);
        }
    }

    @Sentence(promise = 9, says = "TOLD fractions: upper -999 to 999, lower 1 to 99.")
    static void addToldFractions() {
        for (int[] f : JUST_TOLD) {
            RowPivots x = of("size 2 1;row 0 1 0;");
            due("add " + f[0] + "/" + f[1], x.add(1, 0, f[0], f[1]), 0);
            entryIs(x, 1, 0, f[0], f[1]);
        }
        for (int[] f : NOT_TOLD) {
            refused("add " + f[0] + "/" + f[1], x -> x.add(0, 1, f[0], f[1]), 1);
        }
    }

    // ---- no such

    @Sentence(promise = {6, 11}, says = "1 there is no such ROW, COLUMN, RULE, told fraction")
    static void setNoSuch() {
        int[][] none = {{-1, 0}, {3, 0}, {0, -1}, {0, 4}, {SMALL, 0}, {LARGE, 0}, {0, SMALL},
            {0, LARGE}, {3, 4}, {-1, -1}, {6, 0}, {0, 7}};
        for (int[] a : none) {
            refused("set(" + a[0] + ", " + a[1] + ")", x -> x.set(a[0], a[1], 5, 1), 1);
        }
        RowPivots x = rich();
        due("the last ROW and the SIDE", x.set(2, 3, 5, 1), 0);
        entryIs(x, 2, 3, 5, 1);
        x = of("size 6 6;");
        due("ROW 5, the SIDE", x.set(5, 6, 1, 1), 0);
        due("ROW 6", x.set(6, 6, 1, 1), 1);
        due("column 7", x.set(5, 7, 1, 1), 1);
        x = of("size 1 1;");
        due("ROW 0, the SIDE", x.set(0, 1, 1, 1), 0);
        due("ROW 1", x.set(1, 1, 1, 1), 1);
        due("column 2", x.set(0, 2, 1, 1), 1);
        whyIs(x, 1, 0, 0);
    }

    @Sentence(promise = {7, 11}, says = "1 there is no such ROW, COLUMN, RULE, told fraction")
    static void swapNoSuch() {
        int[][] none = {{-1, 0}, {3, 0}, {0, -1}, {0, 3}, {3, 3}, {-1, -1}, {SMALL, 0}, {0, LARGE},
            {LARGE, LARGE}, {6, 0}};
        for (int[] a : none) {
            refused("swap(" + a[0] + ", " + a[1] + ")", x -> x.swap(a[0], a[1]), 1);
        }
        RowPivots x = rich();
        due("the last ROW", x.swap(2, 0), 0);
        due("ROW 5", of("size 6 1;set 5 0 1;").swap(0, 5), 0);
        due("ROW 6", of("size 6 1;set 5 0 1;").swap(0, 6), 1);
        due("of 1 ROW", of("size 1 1;set 0 0 1;").swap(0, 1), 1);
    }

    @Sentence(promise = {8, 11}, says = "1 there is no such ROW, COLUMN, RULE, told fraction")
    static void scaleNoSuch() {
        for (int row : new int[] {-1, 3, 6, SMALL, LARGE}) {
            refused("scale(" + row + ")", x -> x.scale(row, 2, 1), 1);
        }
        due("the last ROW", rich().scale(2, 1, 2), 0);
        due("ROW 5", of("size 6 1;set 5 0 1;").scale(5, 2, 1), 0);
        due("ROW 6", of("size 6 1;set 5 0 1;").scale(6, 2, 1), 1);
    }

    @Sentence(promise = {9, 11}, says = "1 there is no such ROW, COLUMN, RULE, told fraction")
    static void addNoSuch() {
        int[][] none = {{-1, 0}, {3, 0}, {0, -1}, {0, 3}, {3, 3}, {-1, -1}, {SMALL, 0}, {0, LARGE}};
        for (int[] a : none) {
            refused("add(" + a[0] + ", " + a[1] + ")", x -> x.add(a[0], a[1], 1, 1), 1);
        }
        due("the last ROW", rich().add(2, 0, 1, 1), 0);
        due("of the last ROW", rich().add(0, 2, 1, 1), 0);
        due("ROW 5", of("size 6 1;set 5 0 1;").add(0, 5, 2, 1), 0);
        due("ROW 6", of("size 6 1;set 5 0 1;").add(0, 6, 2, 1), 1);
    }

    @Sentence(promise = {10, 11}, says = "1 there is no such ROW, COLUMN, RULE, told fraction")
    static void reduceNoSuch() {
        for (int rule : new int[] {-1, 3, SMALL, LARGE}) {
            refused("reduce(" + rule + ")", x -> x.reduce(rule), 1);
        }
        for (int rule = 0; rule < 3; rule++) {
            due("reduce(" + rule + ")", rich().reduce(rule), 0);
        }
    }

    // ---- changes nothing

    @Sentence(promise = {6, 11}, says = "2 it changes nothing (SET: it is that;")
    static void setItIsThat() {
        refused("set 1", x -> x.set(0, 1, 1, 1), 2);
        refused("set 7/7", x -> x.set(0, 1, 7, 7), 2);
        refused("set 0/99", x -> x.set(0, 0, 0, 99), 2);
        refused("the SIDE", x -> x.set(0, 3, 18, 2), 2);
        due("its opposite", rich().set(0, 1, -1, 1), 0);
        due("another lower number", rich().set(0, 1, 1, 2), 0);
        RowPivots x = of("size 1 1;row 0 -6/4 0;");
        due("-9/6", x.set(0, 0, -9, 6), 2);
        whyIs(x, 2, 0, 0);
        due("3/2", x.set(0, 0, 3, 2), 0);
        due("0", x.set(0, 0, 0, 1), 0);
        due("0 once more", x.set(0, 0, 0, 1), 2);
    }

    @Sentence(promise = {7, 11}, says = "SWAP: one and the same ROW, or both are alike;")
    static void swapAlike() {
        refused("swap(1, 1)", x -> x.swap(1, 1), 2);
        RowPivots x = of("size 4 2;row 0 1/2 2 3;row 1 2/4 2 3;row 2 1/2 2 4;row 3 1/2 -2 3;");
        due("alike", x.swap(0, 1), 2);
        due("alike", x.swap(1, 0), 2);
        whyIs(x, 2, 0, 0);
        due("count(3)", x.count(3), 0);
        due("but for the SIDE alike", x.swap(0, 2), 0);
        due("but for a sign alike", x.swap(1, 3), 0);
        due("both 0", new RowPivots().swap(0, 1), 2);
        due("of 1 ROW", of("size 1 1;set 0 0 1;").swap(0, 0), 2);
    }

    @Sentence(promise = {8, 11}, says = "SCALE: by 0, by 1, a ROW of 0s;")
    static void scaleByNothing() {
        refused("by 0", x -> x.scale(0, 0, 1), 2);
        refused("by 0/99", x -> x.scale(0, 0, 99), 2);
        refused("by 1", x -> x.scale(0, 1, 1), 2);
        refused("by 99/99", x -> x.scale(0, 99, 99), 2);
        RowPivots x = of("size 3 2;row 0 0 0 7;row 1 0 1 0;");
        due("a ROW of 0s", x.scale(2, 5, 1), 2);
        whyIs(x, 2, 0, 0);
        due("0s but for the SIDE", x.scale(0, 5, 1), 0);
        due("0s but for a COLUMN", x.scale(1, 5, 1), 0);
        due("by -1", x.scale(1, -1, 1), 0);
        due("by 98/99", x.scale(1, 98, 99), 0);
    }

    @Sentence(promise = {9, 11}, says = "ADD: a ROW and itself, 0 times, of a ROW of 0s;")
    static void addNothing() {
        refused("itself", x -> x.add(0, 0, 1, 1), 2);
        refused("itself, -1 times", x -> x.add(0, 0, -1, 1), 2);
        refused("0 times", x -> x.add(0, 1, 0, 1), 2);
        refused("0/99 times", x -> x.add(0, 1, 0, 99), 2);
        RowPivots x = of("size 3 2;row 0 0 0 7;row 1 0 1 0;");
        due("of a ROW of 0s", x.add(0, 2, 1, 1), 2);
        whyIs(x, 2, 0, 0);
        due("of 0s but for the SIDE", x.add(1, 0, 1, 1), 0);
        entryIs(x, 1, 2, 7, 1);
        due("to a ROW of 0s", x.add(2, 1, 1, 1), 0);
        due("to 0", x.add(2, 1, -1, 1), 0);
        due("all 0 now", x.pattern(2, false), 0);
    }

    @Sentence(promise = {10, 11}, says = "REDUCE: no ENTRY becomes another one)")
    static void reduceNothing() {
        String[] done = {"size 2 2;", "size 2 2;row 0 1 2 3;row 1 0 4 5;", "size 1 3;row 0 1 2 3 4;",
            "size 2 1;row 1 0 5;", "size 3 2;row 0 1 0 1;row 2 0 1 1;", "size 6 6;set 5 5 1;"};
        for (String text : done) {
            for (int rule = 0; rule < 2; rule++) {
                RowPivots x = of(text);
                due("reduce(" + rule + ") of " + text, x.reduce(rule), 2);
                whyIs(x, 2, 0, 0);
                due("count(3)", x.count(3), 0);
            }
        }
        Supplier<RowPivots> reduced = () -> {
            RowPivots x = rich();
            x.reduce(1);
            return x;
        };
        leavesAll("reduce(1) once more", reduced, x -> x.reduce(1), 2, true);
    }

    @Sentence(promise = {10, 11}, says = "REDUCE: no ENTRY becomes another one)")
    static void reduceOneEntry() {
        RowPivots x = of("size 2 1;row 0 1 0;row 1 1 0;");
        due("the last ROW alone", x.reduce(0), 0);
        entryIs(x, 0, 0, 1, 1);
        entryIs(x, 1, 0, 0, 1);
        x = of("size 2 1;row 0 1 0;row 1 2 0;");
        due("ROW 0 alone", x.reduce(2), 0);
        entryIs(x, 0, 0, 0, 1);
        entryIs(x, 1, 0, 2, 1);
        x = of("size 6 6;set 0 5 1;set 5 5 1;");
        due("the last COLUMN of the last ROW", x.reduce(1), 0);
        due("undo()", x.undo(), 0);
    }

    // ---- the first of these

    @Sentence(promise = {6, 7, 8, 9, 10}, says = "REFUSED, the first of these: 1")
    static void theFirstOfThese() {
        RowPivots x = new RowPivots();
        due("swap: no ROW, the same", x.swap(2, 2), 1);
        due("scale: no ROW, by 0", x.scale(2, 0, 1), 1);
        due("scale: not told, 0", x.scale(0, 0, 100), 1);
        due("scale: not told, 1", x.scale(0, 100, 100), 1);
        due("add: no ROW, the same", x.add(-1, -1, 1, 1), 1);
        due("add: not told, of 0s", x.add(0, 1, 1000, 1), 1);
        due("set: it is that, not told", x.set(0, 0, 0, 0), 1);
        x = matrix("1000000000 1", "1000000000 1");
        due("set", x.set(1, 0, 500, 1), 0);
        due("scale: LONG, no ROW", x.scale(2, 999, 1), 1);
        due("scale: LONG, not told", x.scale(0, 1000, 1), 1);
        due("scale: LONG", x.scale(0, 999, 1), 3);
        due("add: LONG, the same ROW", x.add(0, 0, 999, 1), 2);
        due("add: LONG, not told", x.add(1, 0, 1000, 1), 1);
        due("add: LONG", x.add(1, 0, 999, 1), 3);
    }

    // ---- LONG

    @Sentence(promise = 8,
        says = "LONG is one whose upper number, without its sign, or lower one is above "
            + "1000000000.")
    static void scaleUpperLong() {
        RowPivots x = matrix("500000000 1", "142857143 1", "0 0");
        due("1000000000", x.scale(0, 2, 1), 0);
        entryIs(x, 0, 0, 1000000000, 1);
        due("-1000000000", x.scale(0, -1, 1), 0);
        entryIs(x, 0, 0, -1000000000, 1);
        due("1000000001", x.scale(1, 7, 1), 3);
        whyIs(x, 3, 1, 0);
        due("-1000000001", x.scale(1, -7, 1), 3);
        whyIs(x, 3, 1, 0);
        entryIs(x, 1, 0, 142857143, 1);
        due("1000000001/2 is LONG, too", x.scale(1, 7, 2), 3);
        due("142857143/7 is not", x.scale(1, 1, 7), 0);
    }

    @Sentence(promise = 8,
        says = "LONG is one whose upper number, without its sign, or lower one is above "
            + "1000000000.")
    static void scaleLowerLong() {
        RowPivots x = matrix("1/500000000 1", "1/500000220 1", "0 0");
        due("1 by 1000000000", x.scale(0, 1, 2), 0);
        entryIs(x, 0, 0, 1, 1000000000);
        due("-1 by 1000000000", x.scale(0, -1, 1), 0);
        entryIs(x, 0, 0, -1, 1000000000);
        due("1 by 1000000440", x.scale(1, 1, 2), 3);
        whyIs(x, 3, 1, 0);
        due("-1 by 1000000440", x.scale(1, -1, 2), 3);
        due("3 by 1000000440 is 1 by 333333480", x.scale(1, 3, 2), 0);
        entryIs(x, 1, 0, 1, 333333480);
    }

    @Sentence(promise = 6, says = "in lowest terms, the lower number above 0 (0 is 0 by 1)")
    static void lowestTerms() {
        RowPivots x = new RowPivots();
        int[][] told = {{-999, 99, -111, 11}, {64, 96, 2, 3}, {98, 98, 1, 1}, {99, 33, 3, 1}, {0, 98, 0, 1},
            {-97, 97, -1, 1}, {-33, 99, -1, 3}, {0, 1, 0, 1}};
        for (int k = 0; k < told.length; k++) {
            x.set(0, 0, 1 + k, 98);
            x.set(0, 0, told[k][0], told[k][1]);
            entryIs(x, 0, 0, told[k][2], told[k][3]);
        }
    }

    @Sentence(promise = {8, 9}, says = "in lowest terms, the lower number above 0 (0 is 0 by 1)")
    static void lowestTermsBehindActs() {
        RowPivots x = of("size 2 2;row 0 5/6 0 -2/3;row 1 1/6 1/7 2/3;");
        x.add(0, 1, 1, 1);
        entryIs(x, 0, 0, 1, 1);
        entryIs(x, 0, 1, 1, 7);
        entryIs(x, 0, 2, 0, 1);
        x.scale(1, -6, 4);
        entryIs(x, 1, 0, -1, 4);
        entryIs(x, 1, 1, -3, 14);
        entryIs(x, 1, 2, -1, 1);
        x.scale(0, -14, 2);
        entryIs(x, 0, 1, -1, 1);
        entryIs(x, 0, 2, 0, 1);
    }

    @Sentence(promise = {9, 11}, says = "3 an ENTRY, or what is added to it, would be LONG")
    static void addEntryLong() {
        RowPivots x = matrix("999999999 0", "1000000000 0", "1 0");
        due("999999999 and 1", x.add(0, 2, 1, 1), 0);
        entryIs(x, 0, 0, 1000000000, 1);
        due("1000000000 and 1", x.add(1, 2, 1, 1), 3);
        whyIs(x, 3, 1, 0);
        entryIs(x, 1, 0, 1000000000, 1);
        due("1000000000 less 1", x.add(1, 2, -1, 1), 0);
        x = matrix("-1000000000 0", "1 0");
        due("-1000000000 less 1", x.add(0, 1, -1, 1), 3);
        due("-1000000000 and 1", x.add(0, 1, 1, 1), 0);
        x = matrix("1/999999 0", "0 0");
        x.set(1, 0, 1, 1);
        x.scale(1, 1, 10);
        x.scale(1, 1, 10);
        x.scale(1, 1, 10);
        due("lower 999999000", x.add(0, 1, 1, 1), 0);
        entryIs(x, 0, 0, 1000999, 999999000);
        due("lower 999999000 and 64: above", x.add(0, 1, 1, 64), 3);
    }

    @Sentence(promise = {9, 11}, says = "3 an ENTRY, or what is added to it, would be LONG")
    static void addedLong() {
        RowPivots x = matrix("142857143 0", "-1 0");
        due("1000000001 is added to -1: 1000000000 would come", x.add(1, 0, 7, 1), 3);
        whyIs(x, 3, 1, 0);
        entryIs(x, 1, 0, -1, 1);
        due("-1000000001 is added", x.add(1, 0, -7, 1), 3);
        x = matrix("500000000 0", "-1 0");
        due("1000000000 is added to -1", x.add(1, 0, 2, 1), 0);
        entryIs(x, 1, 0, 999999999, 1);
        x = matrix("1/500000220 0", "0 0");
        due("what is added has the lower number 1000000440", x.add(1, 0, 1, 2), 3);
        x = matrix("1/500000000 0", "0 0");
        due("what is added has the lower number 1000000000", x.add(1, 0, 1, 2), 0);
        entryIs(x, 1, 0, 1, 1000000000);
    }

    @Sentence(promise = {8, 9, 11}, says = "with its ROW and COLUMN, the first one by COLUMNS;")
    static void firstByColumns() {
        RowPivots x = matrix("1 1000000000 1 1000000000", "500000000 -1 -1000000000 1", "0 0 0 0");
        due("scale", x.scale(0, 2, 1), 3);
        whyIs(x, 3, 0, 1);
        due("scale", x.scale(1, 3, 1), 3);
        whyIs(x, 3, 1, 0);
        due("scale", x.scale(1, 2, 1), 3);
        whyIs(x, 3, 1, 2);
        due("add: the ENTRY of COLUMN 3 alone", x.add(1, 0, 1, 1), 3);
        whyIs(x, 3, 1, 3);
        due("add: what is added to COLUMN 1, first", x.add(1, 0, 2, 1), 3);
        whyIs(x, 3, 1, 1);
        due("to ROW 2", x.add(2, 1, 2, 1), 3);
        whyIs(x, 3, 2, 2);
    }

    @Sentence(promise = {8, 9, 10}, says = "All but SET go over the SIDE, too.")
    static void overTheSide() {
        RowPivots x = of("size 2 1;row 0 1 2;row 1 3 5;");
        x.swap(0, 1);
        entryIs(x, 0, 1, 5, 1);
        x.scale(0, 2, 1);
        entryIs(x, 0, 1, 10, 1);
        x.add(0, 1, -1, 1);
        entryIs(x, 0, 1, 8, 1);
        x.reduce(0);
        entryIs(x, 1, 1, 2, 5);
        x = matrix("1 500000000", "1 500000000");
        due("LONG at the SIDE", x.scale(0, 3, 1), 3);
        whyIs(x, 3, 0, 1);
        due("SET is of one ENTRY", x.set(0, 0, 2, 1), 0);
        entryIs(x, 0, 1, 500000000, 1);
    }

    @Sentence(promise = {8, 9}, says = "3 an ENTRY, or what is added to it, would be LONG")
    static void longLeavesAll() {
        refused("scale", x -> x.scale(2, 999, 1), 3);
        refused("add", x -> x.add(0, 2, 999, 1), 3);
        refused("add, at a later COLUMN", x -> x.add(1, 2, 430, 1), 3);
    }

    // ---- promise 10

    private static RowPivots brokenRich() {
        RowPivots x = rich();
        x.scale(2, 5, 1);
        x.set(1, 0, 1, 99);
        return x;
    }

    @Sentence(promise = {10, 11}, says = "of REDUCE that at which it is BROKEN")
    static void reduceBroken() {
        leavesAll("reduce(0)", ActEdgesTest::brokenRich, x -> x.reduce(0), 3, true);
        RowPivots x = brokenRich();
        x.reduce(0);
        whyIs(x, 3, 2, 0);
    }

    @Sentence(promise = {10, 11}, says = "of REDUCE that at which it is BROKEN")
    static void reduceBrokenBehindOtherSteps() {
        RowPivots x = matrix("1 0 1 1", "1 1 0 1000000000", "2 -1 3 0", "0 0 0 0");
        due("the SIDE of ROW 2 by the second PIVOT", x.reduce(0), 0);
        entryIs(x, 1, 3, 999999999, 1);
        entryIs(x, 2, 3, 999999997, 1);
        x = matrix("1 0 1 -1", "1 1 0 1000000000", "2 -1 3 0", "0 0 0 0");
        due("the SIDE of ROW 1 by the first", x.reduce(0), 3);
        whyIs(x, 3, 1, 3);
        x = matrix("1 0 1 0", "1 1 0 1000000000", "2 -1 3 1", "0 0 0 0");
        due("the SIDE of ROW 2 by the second", x.reduce(0), 3);
        whyIs(x, 3, 2, 3);
        entryIs(x, 1, 0, 1, 1);
        entryIs(x, 2, 0, 2, 1);
    }

    @Sentence(promise = 10, says = "REDUCE: the MATRIX becomes what the copy is at the end.")
    static void reduceBecomes() {
        RowPivots x = of("size 3 3;row 0 0 2 1 1;row 1 2 1 1 2;row 2 4 1 5 3;");
        due("reduce(0)", x.reduce(0), 0);
        entryIs(x, 0, 0, 0, 1);
        entryIs(x, 0, 1, 2, 1);
        entryIs(x, 1, 0, 2, 1);
        entryIs(x, 2, 0, 0, 1);
        entryIs(x, 2, 1, 0, 1);
        entryIs(x, 2, 2, 7, 2);
        entryIs(x, 2, 3, -1, 2);
    }

    // ---- promise 11

    @Sentence(promise = 11, says = "0: it was not, there is no such level.")
    static void itWasNot() {
        whyIs(new RowPivots(), 0, 0, 0);
        RowPivots x = rich();
        x.set(0, 0, 5, 1);
        whyIs(x, 0, 0, 0);
        x = rich();
        x.swap(0, 3);
        whyIs(x, 1, 0, 0);
        x.swap(0, 0);
        whyIs(x, 2, 0, 0);
        x.scale(2, 999, 1);
        whyIs(x, 3, 2, 0);
        x.reduce(0);
        whyIs(x, 0, 0, 0);
    }

    @Sentence(promise = 11, says = "NONE: another level, what.")
    static void anotherLevelOrWhat() {
        int[][] none = {{-1, 0}, {2, 0}, {0, -1}, {0, 3}, {1, -1}, {1, 3}, {2, 3}, {-1, -1}, {SMALL, 0},
            {LARGE, 1}, {0, SMALL}, {1, LARGE}};
        for (int[] a : none) {
            leavesAll("why(" + a[0] + ", " + a[1] + ")", x -> x.why(a[0], a[1]), NONE);
            due("not REFUSED", new RowPivots().why(a[0], a[1]), NONE);
        }
    }

    @Sentence(promise = 11, says = "1: the ROW, 2: the COLUMN (of 4; else NONE)")
    static void rowAndColumnOfFour() {
        RowPivots x = rich();
        due("level 0, ROW", x.why(0, 1), NONE);
        due("level 0, COLUMN", x.why(0, 2), NONE);
        due("level 1", x.why(1, 0), 4);
        due("level 1, ROW", x.why(1, 1), 2);
        due("level 1, COLUMN", x.why(1, 2), 0);
        x = matrix("0 0", "0 1000000000");
        due("scale", x.scale(1, 2, 1), 3);
        due("the SIDE's number", x.why(1, 2), 1);
    }

    @Sentence(promise = 11, says = "Why the latest ACT (of the calls above) was REFUSED")
    static void ofTheLatestAct() {
        RowPivots x = rich();
        x.undo();
        x.feed(1, 2, 3, 4, 5);
        x.end(0);
        x.count(5);
        x.kind();
        x.image(1);
        whyIs(x, 3, 2, 0);
        x.set(9, 9, 9, 9);
        whyIs(x, 1, 0, 0);
        x.add(0, 0, 1, 1);
        whyIs(x, 2, 0, 0);
        x.swap(0, 1);
        whyIs(x, 0, 0, 0);
        x.undo();
        whyIs(x, 0, 0, 0);
    }

    // ---- promise 12

    @Sentence(promise = 12,
        says = "The latest 20 that were not REFUSED can be UNDONE (REDUCE is one).")
    static void latestTwenty() {
        RowPivots x = new RowPivots();
        for (int k = 1; k <= 19; k++) {
            x.set(0, 0, k, 1);
        }
        due("19", x.count(3), 19);
        x.set(0, 0, 20, 1);
        due("20", x.count(3), 20);
        x.set(0, 0, 20, 1);
        x.set(0, 9, 20, 1);
        due("REFUSED ones do not count", x.count(3), 20);
        x.set(0, 0, 21, 1);
        due("21 are not", x.count(3), 20);
        for (int left = 19; left >= 0; left--) {
            due("undo()", x.undo(), left);
            entryIs(x, 0, 0, left + 1, 1);
        }
        due("the first one can't be", x.undo(), NONE);
        entryIs(x, 0, 0, 1, 1);
    }

    @Sentence(promise = 12,
        says = "The latest 20 that were not REFUSED can be UNDONE (REDUCE is one).")
    static void longRunsOfActs() {
        RowPivots x = new RowPivots();
        for (int k = 1; k <= 70; k++) {
            x.set(0, 0, k, 1);
        }
        for (int k = 1; k <= 7; k++) {
            due("undo()", x.undo(), 20 - k);
        }
        for (int k = 1; k <= 9; k++) {
            x.set(0, 1, k, 1);
        }
        due("13 and 9 are 20 again", x.count(3), 20);
        for (int k = 19; k >= 11; k--) {
            due("undo()", x.undo(), k);
            entryIs(x, 0, 1, k - 11, 1);
            entryIs(x, 0, 0, 63, 1);
        }
        for (int k = 10; k >= 0; k--) {
            due("undo()", x.undo(), k);
            entryIs(x, 0, 0, 52 + k, 1);
        }
        due("undo()", x.undo(), NONE);
    }

    @Sentence(promise = 12, says = "The latest ACT is UNDONE: how many more can be.")
    static void eachActIsUndone() {
        RowPivots x = of("size 2 2;row 0 1 2 3;row 1 4 5 6;");
        String[] was = new String[5];
        was[0] = entriesOf(x);
        due("set", x.set(1, 2, 1, 3), 0);
        was[1] = entriesOf(x);
        due("swap", x.swap(0, 1), 0);
        was[2] = entriesOf(x);
        due("scale", x.scale(1, -3, 2), 0);
        was[3] = entriesOf(x);
        due("add", x.add(0, 1, 1, 1), 0);
        was[4] = entriesOf(x);
        due("reduce", x.reduce(0), 0);
        for (int left = 4; left >= 0; left--) {
            due("undo()", x.undo(), left);
            sameText("undo()", entriesOf(x), was[left]);
        }
        due("undo()", x.undo(), NONE);
        sameText("undo()", entriesOf(x), was[0]);
    }

    private static String entriesOf(RowPivots x) {
        String all = matrixOf(x);
        return all.substring(all.indexOf(';'));
    }

    @Sentence(promise = 12, says = "NONE: none can.")
    static void noneCan() {
        due("a new object", new RowPivots().undo(), NONE);
        due("behind text()", of("size 1 1;set 0 0 1;").undo(), NONE);
        Supplier<RowPivots> undone = () -> {
            RowPivots x = rich();
            for (int k = 0; k < 5; k++) {
                due("undo()", x.undo(), 4 - k);
            }
            return x;
        };
        leavesAll("undo()", undone, RowPivots::undo, NONE, false);
        RowPivots x = rich();
        x.again(0);
        due("behind again()", x.undo(), NONE);
    }

    public static void main(String[] args) throws Exception {
        runSentences(ActEdgesTest.class, 6, 7, 8, 9, 10, 11, 12);
        finish();
    }
}
