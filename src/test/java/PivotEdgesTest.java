import java.util.function.ToIntFunction;

/** ELIMINATION, promises 14 (RULES), 16, 17, 19, 26: one test for each sentence with an edge. */
public final class PivotEdgesTest extends Checks {

    /** ROW, COLUMN, FILL, WEIGHT, upper and lower number. */
    private static void pivotIs(RowPivots x, int rule, int k, int... six) {
        for (int what = 0; what < 6; what++) {
            due("pivot(" + rule + ", " + k + ", " + what + ")", x.pivot(rule, k, what), six[what]);
        }
    }

    private static void rankIs(RowPivots x, int rule, int rank) {
        due("RANK by RULE " + rule, x.pivot(rule, NONE, 0), rank);
        due("PIVOT behind the last by RULE " + rule, x.pivot(rule, rank, 0), UNKNOWN);
    }

    /** BROKEN at a ROW and a COLUMN by a RULE, and what comes of it is UNKNOWN. */
    private static void brokenAt(RowPivots x, int rule, int row, int column) {
        due("RANK", x.pivot(rule, NONE, 0), UNKNOWN);
        due("FILL", x.pivot(rule, NONE, 1), UNKNOWN);
        for (int what = 0; what < 6; what++) {
            due("first PIVOT", x.pivot(rule, 0, what), UNKNOWN);
        }
        due("reduce", x.reduce(rule), 3);
        whyIs(x, 3, row, column);
        if (rule == 1) {
            unknownByRule1(x);
        }
    }

    private static void unknownByRule1(RowPivots x) {
        due("kind()", x.kind(), UNKNOWN);
        due("free()", x.free(), UNKNOWN);
        due("solution()", x.solution(0, false), UNKNOWN);
        due("residue()", x.residue(0, false), UNKNOWN);
        for (int column = 0; column < x.count(1); column++) {
            due("zero()", x.zero(column, column, false), UNKNOWN);
        }
        due("determinant()", x.determinant(false), UNKNOWN);
        int side = x.count(1);
        due("would()", x.would(side, 1, 1, 0, false), UNKNOWN);
    }

    // ---- RULES

    @Sentence(promise = {10, 16}, says = "by RULE 0 of the least COLUMN, then ROW")
    static void rule0() {
        RowPivots x = of("size 3 3;row 0 0 1 9 0;row 1 0 2 1 0;row 2 3 4 5 0;");
        pivotIs(x, 0, 0, 2, 0, 0, 0, 3, 1);
        pivotIs(x, 0, 1, 0, 1, 0, 1, 1, 1);
        pivotIs(x, 0, 2, 1, 2, 0, 0, -17, 1);
        rankIs(x, 0, 3);
    }

    @Sentence(promise = 16,
        says = "by RULE 1 with least WEIGHT, then of the least ROW, then COLUMN")
    static void rule1() {
        RowPivots x = of("size 2 2;row 0 1 2 0;row 1 3 4 0;");
        pivotIs(x, 1, 0, 0, 0, 0, 1, 1, 1);
        x = of("size 3 3;row 0 1 1 1 0;row 1 1 1 0 0;row 2 1 0 2 0;");
        pivotIs(x, 1, 0, 1, 1, 0, 1, 1, 1);
        x = of("size 2 3;row 0 0 5 6 0;row 1 7 0 0 0;");
        pivotIs(x, 1, 0, 0, 1, 0, 0, 5, 1);
        pivotIs(x, 1, 1, 1, 0, 0, 0, 7, 1);
    }

    @Sentence(promise = {10, 16},
        says = "by RULE 2 greatest without its sign, then of the least ROW, then COLUMN")
    static void rule2() {
        RowPivots x = of("size 2 2;row 0 1/2 -3/4 0;row 1 3/4 2/3 0;");
        pivotIs(x, 2, 0, 0, 1, 0, 1, -3, 4);
        x = of("size 2 2;row 0 1 -5 0;row 1 5 5 0;");
        pivotIs(x, 2, 0, 0, 1, 0, 1, -5, 1);
        x = of("size 2 2;row 0 1 -5 0;row 1 -6 5 0;");
        pivotIs(x, 2, 0, 1, 0, 0, 1, -6, 1);
        x = of("size 2 2;row 0 1 97/98 0;row 1 99/98 98/97 0;");
        pivotIs(x, 2, 0, 1, 1, 0, 1, 98, 97);
        x = of("size 1 3;row 0 -2/3 4/6 2/3 9;");
        pivotIs(x, 2, 0, 0, 0, 0, 0, -2, 3);
        x = matrix("999999999 1000000000 0", "-1000000000 0 0", "0 0 0");
        pivotIs(x, 2, 0, 0, 1, 0, 0, 1000000000, 1);
        x = matrix("1/1000000000 1/999999000 0", "0 0 0");
        pivotIs(x, 2, 0, 0, 1, 0, 0, 1, 999999000);
    }

    @Sentence(promise = 16, says = "all ROWS, and COLUMNS (not the SIDE) are LIVE")
    static void theSideIsNotLive() {
        RowPivots x = of("size 2 1;row 0 0 999;row 1 1 5;");
        for (int rule = 0; rule < 3; rule++) {
            pivotIs(x, rule, 0, 1, 0, 0, 0, 1, 1);
            rankIs(x, rule, 1);
        }
        x = of("size 2 2;set 0 2 5;set 1 2 6;");
        for (int rule = 0; rule < 3; rule++) {
            rankIs(x, rule, 0);
        }
    }

    @Sentence(promise = 16, says = "As long as an ENTRY of LIVE ones is not 0")
    static void rankFromNoneToSix() {
        RowPivots x = of("size 6 6;");
        for (int rank = 0; rank <= 6; rank++) {
            for (int rule = 0; rule < 3; rule++) {
                rankIs(x, rule, rank);
            }
            x.set(rank % 6, 5 - rank % 6, 3, 1);
        }
        for (int rule = 0; rule < 3; rule++) {
            due("the sixth", x.pivot(rule, 5, 4), 3);
            due("no seventh", x.pivot(rule, 6, 4), UNKNOWN);
        }
    }

    @Sentence(promise = {16, 17, 19, 26}, says = "ELIMINATION by a RULE goes over a copy")
    static void eachGoesOverItsOwnCopy() {
        RowPivots x = new RowPivots();
        x.set(1, 1, 1, 1);
        rankIs(x, 1, 1);
        due("free()", x.free(), 1);
        x.undo();
        rankIs(x, 1, 0);
        due("free()", x.free(), 3);
        due("kind()", x.kind(), 2);
        due("ranked()", x.ranked(0, 0, 1, 1), 1);
        rankIs(x, 1, 0);
        due("ranked()", x.ranked(0, 0, 0, 1), 0);
        x = matrix("1/1001 0", "999001 0", "0 0");
        due("BROKEN", x.kind(), UNKNOWN);
        x.set(1, 0, 0, 1);
        due("BROKEN no more", x.kind(), 1);
        due("RULE 2", x.pivot(2, NONE, 0), 1);
    }

    @Sentence(promise = 16, says = "As long as an ENTRY of LIVE ones is not 0")
    static void rankOfUnequalSides() {
        RowPivots x = of("size 6 1;row 0 0 1;row 3 2 0;row 5 1 1;");
        RowPivots y = of("size 1 6;row 0 0 0 3 4 0 1 7;");
        for (int rule = 0; rule < 3; rule++) {
            rankIs(x, rule, 1);
            rankIs(y, rule, 1);
        }
        pivotIs(x, 0, 0, 3, 0, 0, 0, 2, 1);
        pivotIs(y, 0, 0, 0, 2, 0, 0, 3, 1);
        pivotIs(y, 1, 0, 0, 2, 0, 0, 3, 1);
        pivotIs(y, 2, 0, 0, 3, 0, 0, 4, 1);
    }

    @Sentence(promise = 16,
        says = "(ENTRIES that are not 0 in its ROW and LIVE COLUMNS, less 1) times (those in its "
            + "COLUMN and LIVE ROWS, less 1)")
    static void weights() {
        StringBuilder full = new StringBuilder("size 6 6;");
        for (int row = 0; row < 6; row++) {
            full.append("row ").append(row);
            for (int column = 0; column <= 6; column++) {
                full.append(row == column ? " 2" : " 1");
            }
            full.append(';');
        }
        RowPivots x = of(full.toString());
        for (int k = 0; k < 6; k++) {
            due("WEIGHT " + k, x.pivot(0, k, 3), (5 - k) * (5 - k));
            due("WEIGHT " + k, x.pivot(1, k, 3), (5 - k) * (5 - k));
        }
        x = of("size 2 2;row 0 1 0 9;row 1 1 1 9;");
        due("the SIDE does not count", x.pivot(0, 0, 3), 0);
        due("of RULE 2 by its own", x.pivot(2, 0, 3), 0);
        x = of("size 3 3;row 0 5 1 1 0;row 1 1 2 0 0;row 2 0 3 4 0;");
        due("WEIGHT of a PIVOT by RULE 2", x.pivot(2, 0, 3), 2);
    }

    // ---- what is added

    @Sentence(promise = {10, 16}, says = "Then its ROW and COLUMN are LIVE no more.")
    static void doneRowsStay() {
        RowPivots x = of("size 3 3;row 0 1 2 3 4;row 1 1 3 3 9;row 2 2 5 7 1;");
        due("reduce(0)", x.reduce(0), 0);
        entryIs(x, 0, 1, 2, 1);
        entryIs(x, 0, 2, 3, 1);
        entryIs(x, 0, 3, 4, 1);
        entryIs(x, 1, 0, 0, 1);
        entryIs(x, 1, 1, 1, 1);
        entryIs(x, 1, 3, 5, 1);
        entryIs(x, 2, 0, 0, 1);
        entryIs(x, 2, 1, 0, 1);
        entryIs(x, 2, 2, 1, 1);
        entryIs(x, 2, 3, -12, 1);
    }

    @Sentence(promise = 16,
        says = "FILL of a PIVOT: ENTRIES (not of the SIDE) that were 0 and are not by it.")
    static void fills() {
        RowPivots x = of("size 3 3;row 0 1 1 1 5;row 1 1 0 0 0;row 2 1 1 0 0;");
        due("three of them, one is 0 now", x.pivot(0, 0, 2), 3);
        due("none by the second", x.pivot(0, 1, 2), 0);
        due("of all", x.pivot(0, NONE, 1), 3);
        x = of("size 2 1;row 0 1 5;row 1 1 0;");
        due("the SIDE does not count", x.pivot(0, 0, 2), 0);
        due("of all", x.pivot(0, NONE, 1), 0);
        StringBuilder most = new StringBuilder("size 6 6;row 0 1 1 1 1 1 1 0;");
        for (int row = 1; row < 6; row++) {
            most.append("set ").append(row).append(" 0 ").append(row + 1).append(';');
        }
        x = of(most.toString());
        due("25 of the first PIVOT", x.pivot(0, 0, 2), 25);
        due("none of the second", x.pivot(0, 1, 2), 0);
        due("of all", x.pivot(0, NONE, 1), 25);
        x = of("size 3 3;row 0 1 1 0 0;row 1 1 0 1 0;row 2 0 1 0 0;");
        due("one of the first", x.pivot(0, 0, 2), 1);
        due("none of the second: it fills (2, 2)", x.pivot(0, 1, 2), 1);
        due("of all", x.pivot(0, NONE, 1), 2);
    }

    // ---- BROKEN

    @Sentence(promise = {10, 16, 17, 19},
        says = "If a FACTOR is LONG (in its ROW, the PIVOT's COLUMN)")
    static void longFactor() {
        RowPivots x = matrix("1/1000 0", "1000000 0", "0 0");
        rankIs(x, 0, 1);
        due("a FACTOR of -1000000000", x.reduce(0), 0);
        brokenAt(matrix("1/1001 0", "999001 0", "0 0"), 0, 1, 0);
        brokenAt(matrix("1/1001 0", "999001 0", "0 0"), 1, 1, 0);
        brokenAt(matrix("1/1001 0", "-999001 0", "0 0"), 1, 1, 0);
        x = matrix("1000000 0", "1/1000 0", "0 0");
        rankIs(x, 0, 1);
        due("a FACTOR of -1 by 1000000000", x.reduce(0), 0);
        entryIs(x, 1, 0, 0, 1);
        brokenAt(matrix("999001 0", "1/1001 0", "0 0"), 0, 1, 0);
        brokenAt(matrix("0 999001 0", "0 1/1001 0", "0 0 0"), 1, 1, 1);
        brokenAt(matrix("0 1/1001 0", "0 999001 0", "0 0 0"), 2, 0, 1);
    }

    @Sentence(promise = {10, 16, 17},
        says = "or, COLUMN by COLUMN, what is added (the FACTOR times the PIVOT's ROW there)")
    static void longIsAdded() {
        RowPivots x = matrix("1 1000000", "1000 0", "0 0");
        rankIs(x, 1, 1);
        due("-1000000000 is added", x.reduce(1), 0);
        entryIs(x, 1, 1, -1000000000, 1);
        brokenAt(matrix("1 999001", "1001 0", "0 0"), 1, 1, 1);
        brokenAt(matrix("1 999001", "1001 1000", "0 0"), 1, 1, 1);
        brokenAt(matrix("1 -999001", "1001 -1000", "0 0"), 0, 1, 1);
        brokenAt(matrix("1 0 999001 0", "1001 0 1 0", "0 0 0 0"), 0, 1, 2);
        brokenAt(matrix("1 0 999001 5", "1001 0 1000000000 1", "0 0 0 0"), 1, 1, 2);
    }

    @Sentence(promise = {10, 16, 17},
        says = "or the ENTRY that comes, the ELIMINATION is BROKEN there.")
    static void longComes() {
        RowPivots x = matrix("1 1000000", "1000 1", "0 0");
        due("1 less 1000000000", x.reduce(0), 0);
        entryIs(x, 1, 1, -999999999, 1);
        brokenAt(matrix("1 1000000", "1000 -1", "0 0"), 0, 1, 1);
        brokenAt(matrix("1 -1000000", "1000 1", "0 0"), 1, 1, 1);
        brokenAt(matrix("1 1 0", "1 -1000000000 0", "0 0 0"), 0, 1, 1);
        x = matrix("1 1 0", "1 -999999999 0", "0 0 0");
        due("-999999999 less 1", x.reduce(0), 0);
        entryIs(x, 1, 1, -1000000000, 1);
    }

    @Sentence(promise = {10, 11, 16}, says = "is BROKEN there")
    static void brokenAtTheFirst() {
        brokenAt(matrix("1 1 1 1", "1 5 -1000000000 -1000000000", "1 -1000000000 5 5", "0 0 0 0"), 0, 1, 2);
        brokenAt(matrix("1 1 1 1", "0 -1000000000 5 5", "1 5 5 -1000000000", "0 0 0 0"), 0, 2, 3);
        RowPivots x = matrix("1 1000000000 0", "0 1 0", "0 0 0");
        due("a ROW that is 0 in the PIVOT's COLUMN is left", x.reduce(0), 2);
        rankIs(x, 0, 2);
    }

    @Sentence(promise = {16, 17, 19, 26}, says = "What comes of a BROKEN ELIMINATION is UNKNOWN")
    static void brokenByOneRule() {
        RowPivots x = matrix("1 999001", "1001 0", "0 0");
        due("by RULE 0", x.pivot(0, NONE, 0), UNKNOWN);
        due("by RULE 1", x.pivot(1, NONE, 0), UNKNOWN);
        due("by RULE 2", x.pivot(2, NONE, 0), 1);
        pivotIs(x, 2, 0, 1, 0, 0, 0, 1001, 1);
        due("no such PIVOT", x.pivot(0, 6, 0), UNKNOWN);
        unknownByRule1(x);
        due("ranked, BROKEN still", x.ranked(2, 0, 1, 1), UNKNOWN);
        due("ranked, BROKEN no more", x.ranked(1, 0, 0, 1), 1);
        x = matrix("1 999001", "0 1", "0 0");
        due("not BROKEN", x.kind(), 0);
        due("ranked, not BROKEN", x.ranked(1, 0, 999, 1), 1);
        x = matrix("1 1000000000", "0 1", "0 0");
        due("ranked, BROKEN then", x.ranked(1, 0, 2, 1), UNKNOWN);
    }

    // ---- promise 14

    private static void fillsAre(String text, int first, int second, int third, int rule) {
        RowPivots x = of(text);
        due("FILL by RULE 0", x.pivot(0, NONE, 1), first);
        due("FILL by RULE 1", x.pivot(1, NONE, 1), second);
        due("FILL by RULE 2", x.pivot(2, NONE, 1), third);
        due("count(5) of " + text, x.count(5), rule);
    }

    @Sentence(promise = 14,
        says = "5: the RULE by which FILL of all PIVOTS together is least, of several the least")
    static void leastFill() {
        fillsAre("size 2 2;", 0, 0, 0, 0);
        fillsAre("size 2 2;row 0 1 0 1;row 1 0 3 1;", 0, 0, 0, 0);
        fillsAre("size 2 2;row 0 0 1 1;row 1 1 4 3;", 0, 0, 1, 0);
        fillsAre("size 2 2;row 0 4 1 2;row 1 4 0 4;", 1, 0, 1, 1);
        fillsAre("size 2 2;row 0 3 2 0;row 1 4 0 3;", 1, 0, 0, 1);
        fillsAre("size 2 4;row 0 1 2 0 0 1;row 1 3 0 2 2 0;", 1, 0, 2, 1);
        fillsAre("size 2 4;row 0 2 2 0 2 0;row 1 4 0 4 0 2;", 2, 0, 1, 1);
        fillsAre("size 4 4;row 0 0 3 4 0 0;row 1 3 2 0 2 1;row 2 2 2 2 2 0;row 3 0 0 3 3 0;",
            0, 1, 1, 0);
        fillsAre("size 4 4;row 0 0 0 2 2 4;row 1 0 2 3 0 4;row 2 1 0 1 0 4;row 3 4 3 3 3 1;",
            0, 1, 3, 0);
        fillsAre("size 4 4;row 0 0 2 1 0 2;row 1 3 0 0 4 0;row 2 3 3 0 4 1;row 3 1 0 1 3 3;",
            1, 1, 0, 2);
        fillsAre("size 4 4;row 0 2 0 2 2 3;row 1 2 2 0 2 2;row 2 0 4 0 3 0;row 3 0 1 3 2 1;",
            2, 1, 0, 2);
    }

    @Sentence(promise = 14, says = "(NONE: all are BROKEN)")
    static void allBroken() {
        String wide = "scale 1 999;scale 1 999;";
        fillsAre("size 2 2;row 0 939 0 0;row 1 1/93 0 0;scale 0 999;scale 0 999;",
            UNKNOWN, UNKNOWN, UNKNOWN, NONE);
        fillsAre("size 2 2;row 0 4 0 1;row 1 2 0 998;" + wide, UNKNOWN, UNKNOWN, 0, 2);
        fillsAre("size 2 2;row 0 1/94 2 4;row 1 901 0 4;" + wide, UNKNOWN, 0, UNKNOWN, 1);
        fillsAre("size 2 2;row 0 0 1/92 0;row 1 4 915 0;" + wide, 0, UNKNOWN, UNKNOWN, 0);
        fillsAre("size 2 2;row 0 1 3 2;row 1 982 0 0;" + wide, UNKNOWN, 0, 0, 1);
        fillsAre("size 2 2;row 0 0 1 4;row 1 3 905 2;" + wide, 0, UNKNOWN, 1, 0);
        fillsAre("size 3 2;row 0 3 1 0;row 1 1 934 0;row 2 933 0 2;" + wide, 1, UNKNOWN, 0, 2);
        fillsAre("size 2 2;row 0 3 946 4;row 1 3 1/96 0;scale 0 999;scale 0 999;",
            0, 0, UNKNOWN, 0);
        fillsAre("size 2 2;row 0 1/97 1 992;row 1 972 0 1;scale 0 1/99;scale 0 999;",
            1, 0, UNKNOWN, 1);
        fillsAre("size 4 4;row 0 0 3 945 0 0;row 1 4 961 1 1 1/98;row 2 0 0 3 1/92 1;"
            + "row 3 4 2 0 1 0;scale 3 999;scale 0 1/99;", UNKNOWN, 1, 0, 2);
    }

    // ---- promise 16

    @Sentence(promise = 16, says = "UNKNOWN: BROKEN, there are none such.")
    static void pivotNoneSuch() {
        int[][] none = {{-1, 0, 0}, {3, 0, 0}, {-1, NONE, 0}, {3, NONE, 1}, {1, 3, 0}, {1, -2, 0}, {1, 0, -1},
            {1, 0, 6}, {1, 2, 6}, {1, 6, 0}, {1, SMALL, 0}, {1, LARGE, 0}, {1, 0, SMALL},
            {1, 0, LARGE}, {SMALL, 0, 0}, {LARGE, 0, 0}};
        for (int[] a : none) {
            leavesAll("pivot(" + a[0] + ", " + a[1] + ", " + a[2] + ")",
                x -> x.pivot(a[0], a[1], a[2]), UNKNOWN);
        }
        due("the last PIVOT", rich().pivot(1, 2, 0) != UNKNOWN, true);
        due("its last number", rich().pivot(1, 2, 5) != UNKNOWN, true);
    }

    @Sentence(promise = 16, says = "k NONE: 0: RANK, 1: FILL of all together.")
    static void pivotOfAll() {
        for (int what : new int[] {-1, 2, 3, 4, 5, 6, SMALL, LARGE}) {
            leavesAll("pivot(1, NONE, " + what + ")", x -> x.pivot(1, NONE, what), UNKNOWN);
        }
        RowPivots x = of("size 2 2;");
        for (int rule = 0; rule < 3; rule++) {
            due("RANK 0", x.pivot(rule, NONE, 0), 0);
            due("FILL 0", x.pivot(rule, NONE, 1), 0);
            due("no PIVOT", x.pivot(rule, 0, 0), UNKNOWN);
        }
    }

    // ---- promises 17 and 19

    @Sentence(promise = 17,
        says = "KIND: 0, if a ROW without a PIVOT has a SIDE that is not 0 at the end; else 1, if "
            + "each COLUMN has a PIVOT; else 2.")
    static void kinds() {
        due("no PIVOT, SIDES 0", of("size 1 1;").kind(), 2);
        due("no PIVOT, a SIDE", of("size 1 1;set 0 1 1;").kind(), 0);
        due("a PIVOT, SIDE 0", of("size 1 1;set 0 0 1;").kind(), 1);
        due("a PIVOT and a SIDE", of("size 1 1;row 0 1 1;").kind(), 1);
        due("all PIVOTS, a ROW of 0s", of("size 2 1;row 0 1 1;").kind(), 1);
        due("all PIVOTS, a SIDE left", of("size 2 1;row 0 1 1;row 1 0 1;").kind(), 0);
        due("the SIDE becomes 0", of("size 2 1;row 0 1 2;row 1 3 6;").kind(), 1);
        due("the SIDE becomes another", of("size 2 1;row 0 1 2;row 1 3 0;").kind(), 0);
        due("a FREE COLUMN", of("size 1 2;row 0 1 1 1;").kind(), 2);
        due("a FREE COLUMN, a SIDE left", of("size 2 2;row 0 1 1 1;row 1 1 1 2;").kind(), 0);
        due("the last ROW of 6", of("size 6 1;set 0 0 1;set 5 1 1;").kind(), 0);
        due("6 COLUMNS", of("size 1 6;row 0 1 1 1 1 1 1 1;").kind(), 2);
    }

    @Sentence(promise = 19, says = "A COLUMN without a PIVOT is FREE.")
    static void freeColumns() {
        due("none", of("size 1 1;set 0 0 1;").free(), 0);
        due("one of one", of("size 1 1;set 0 1 1;").free(), 1);
        due("all", of("size 6 6;").free(), 63);
        due("the last", of("size 1 6;set 0 5 1;").free(), 31);
        due("the first alone", of("size 1 6;set 0 0 1;").free(), 62);
        due("the SIDE is none", of("size 2 2;row 0 1 0 5;row 1 0 0 0;").free(), 2);
        due("of KIND 0", of("size 2 2;row 0 1 1 1;row 1 1 1 2;").free(), 2);
        due("by RULE 1", of("size 2 3;row 0 1 1 0 0;row 1 1 1 1 0;").free(), 2);
        due("none of 6", of("size 6 6;set 0 5 1;set 1 4 1;set 2 3 1;set 3 2 1;set 4 1 1;set 5 0 1;")
            .free(), 0);
    }

    @Sentence(promise = {17, 19}, says = "All these by RULE 1, if no RULE is asked.")
    static void byRule1() {
        RowPivots x = of("size 2 3;row 0 1 1 1 0;row 1 0 0 1 0;");
        due("the PIVOT of ROW 1", x.pivot(1, 1, 1), 2);
        due("FREE by RULE 1", x.free(), 2);
        x = of("size 1 2;row 0 1 5 0;");
        due("by RULE 2 it would be 1", x.free(), 2);
        x = of("size 2 2;row 0 1 1 0;row 1 1 0 0;");
        due("RULE 1", x.pivot(1, 0, 1), 1);
        x = matrix("1 999001", "1001 0", "0 0");
        due("BROKEN by RULE 1, not by RULE 2", x.kind(), UNKNOWN);
        due("not by RULE 2", x.pivot(2, NONE, 0), 1);
    }

    @Sentence(promise = {14, 16, 17, 19, 26}, says = "ELIMINATION by a RULE goes over a copy")
    static void askingLeavesAll() {
        RowPivots x = rich();
        leavesAll("kind()", RowPivots::kind, x.kind());
        leavesAll("free()", RowPivots::free, x.free());
        leavesAll("count(5)", y -> y.count(5), x.count(5));
        ToIntFunction<RowPivots> asked = y -> y.pivot(0, 1, 4);
        leavesAll("pivot(0, 1, 4)", asked, asked.applyAsInt(x));
        leavesAll("ranked()", y -> y.ranked(0, 0, 5, 7), 3);
    }

    // ---- promise 26

    @Sentence(promise = 26, says = "RANK, were an ENTRY (not of the SIDE) a told fraction.")
    static void ranks() {
        RowPivots x = of("size 2 2;row 0 2 1 5;row 1 1 3 10;");
        due("less", x.ranked(1, 0, 6, 1), 1);
        due("as it is", x.ranked(1, 0, 1, 1), 2);
        x = of("size 1 1;");
        due("0", x.ranked(0, 0, 0, 1), 0);
        due("1", x.ranked(0, 0, 1, 99), 1);
        x = of("size 6 6;set 0 0 1;set 1 1 1;set 2 2 1;set 3 3 1;set 4 4 1;");
        due("5", x.ranked(5, 5, 0, 1), 5);
        due("6", x.ranked(5, 5, -1, 1), 6);
        due("4", x.ranked(0, 0, 0, 99), 4);
        due("ROW 6", x.ranked(6, 5, 1, 1), UNKNOWN);
        due("the SIDE", x.ranked(5, 6, 1, 1), UNKNOWN);
    }

    @Sentence(promise = 26, says = "UNKNOWN: so; there are none such.")
    static void rankedNoneSuch() {
        int[][] none = {{-1, 0, 1, 1}, {3, 0, 1, 1}, {0, -1, 1, 1}, {0, 3, 1, 1}, {0, 4, 1, 1}, {0, 0, 1000, 1},
            {0, 0, -1000, 1}, {0, 0, 1, 0}, {0, 0, 1, 100}, {0, 0, 1, -1}, {0, 0, 0, 0},
            {SMALL, 0, 1, 1}, {0, LARGE, 1, 1}, {0, 0, LARGE, 1}, {0, 0, 1, SMALL}};
        for (int[] a : none) {
            leavesAll("ranked(" + a[0] + ", " + a[1] + ", " + a[2] + ", " + a[3] + ")",
                x -> x.ranked(a[0], a[1], a[2], a[3]), UNKNOWN);
        }
        RowPivots x = of("size 2 2;row 0 1 1 0;row 1 1 1 0;");
        int[][] told = {{999, 1}, {-999, 1}, {1, 99}, {-1, 99}, {999, 99}};
        for (int[] f : told) {
            due("ranked " + f[0] + "/" + f[1], x.ranked(1, 1, f[0], f[1]), 2);
        }
    }

    public static void main(String[] args) throws Exception {
        runSentences(PivotEdgesTest.class, 14, 16, 17, 19, 26);
        finish();
    }
}
