/** What comes of ELIMINATION, promises 18, 20 to 25, 27: one test for each sentence with an edge. */
public final class SolutionEdgesTest extends Checks {
    private static final int MOST = 1000000000;
    private static final int[] NO_SUCH = {-1, 3, 6, SMALL, LARGE};

    private static void solutionIs(RowPivots x, int column, int upper, int lower) {
        ratio("solution(" + column + ")", x.solution(column, false), x.solution(column, true), upper,
            lower);
    }

    private static void solutionUnknown(RowPivots x, int column) {
        solutionIs(x, column, UNKNOWN, UNKNOWN);
    }

    private static void zeroIs(RowPivots x, int free, int column, int upper, int lower) {
        ratio("zero(" + free + ", " + column + ")", x.zero(free, column, false),
            x.zero(free, column, true), upper, lower);
    }

    private static void determinantIs(RowPivots x, int upper, int lower) {
        ratio("determinant", x.determinant(false), x.determinant(true), upper, lower);
    }

    private static void inverseIs(RowPivots x, int row, int column, int upper, int lower) {
        ratio("inverse(" + row + ", " + column + ")", x.inverse(row, column, false),
            x.inverse(row, column, true), upper, lower);
    }

    private static void minorIs(RowPivots x, int row, int column, int upper, int lower) {
        ratio("minor(" + row + ", " + column + ")", x.minor(row, column, false),
            x.minor(row, column, true), upper, lower);
    }

    private static void cramerIs(RowPivots x, int column, int upper, int lower) {
        ratio("cramer(" + column + ")", x.cramer(column, false), x.cramer(column, true), upper, lower);
    }

    private static void residueIs(RowPivots x, int row, int upper, int lower) {
        ratio("residue(" + row + ")", x.residue(row, false), x.residue(row, true), upper, lower);
    }

    // ---- promise 18

    @Sentence(promise = 18, says = "SOLUTION (KIND 1, 2): FREE ones are 0")
    static void freeOnesAreZero() {
        RowPivots x = of("size 2 4;row 0 0 3 5 0 4;row 1 0 0 0 7 -2/3;");
        solutionIs(x, 0, 0, 1);
        solutionIs(x, 1, 4, 3);
        solutionIs(x, 2, 0, 1);
        solutionIs(x, 3, -2, 21);
        solutionIs(of("size 6 6;"), 5, 0, 1);
        solutionIs(of("size 1 1;row 0 1 0;"), 0, 0, 1);
    }

    @Sentence(promise = 18, says = "UNKNOWN: so; KIND is 0; no such COLUMN.")
    static void solutionNoSuch() {
        for (int column : NO_SUCH) {
            leavesAll("solution(" + column + ")", x -> x.solution(column, false), UNKNOWN);
        }
        due("the last COLUMN", rich().solution(2, false) != UNKNOWN, true);
        solutionUnknown(of("size 1 1;row 0 0 1;"), 0);
        solutionUnknown(of("size 2 1;row 0 1 1;row 1 1 2;"), 0);
        RowPivots x = of("size 2 3;row 0 1 1 0 1;row 1 1 1 0 2;");
        for (int column = 0; column < 3; column++) {
            solutionUnknown(x, column);
        }
        solutionUnknown(of("size 6 6;"), 6);
    }

    @Sentence(promise = 18,
        says = "less each ENTRY of its ROW in another COLUMN times what that one has, by COLUMNS, "
            + "then by the PIVOT.")
    static void longProduct() {
        solutionIs(matrix("1 1000 0", "0 1 1000000", "0 0 0"), 0, -MOST, 1);
        RowPivots x = matrix("1 1001 1000", "0 1 999001", "0 0 0");
        solutionUnknown(x, 0);
        solutionIs(x, 1, 999001, 1);
        x = matrix("1 -1001 -1000", "0 1 999001", "0 0 0");
        solutionUnknown(x, 0);
        solutionIs(matrix("1 1/1000 0", "0 1 1/1000000", "0 0 0"), 0, -1, MOST);
        solutionUnknown(matrix("1 1/2 0", "0 1 1/500000220", "0 0 0"), 0);
    }

    @Sentence(promise = 18,
        says = "less each ENTRY of its ROW in another COLUMN times what that one has, by COLUMNS, "
            + "then by the PIVOT.")
    static void longDifference() {
        solutionIs(matrix("1 1000 1", "0 1 1000000", "0 0 0"), 0, -MOST + 1, 1);
        solutionUnknown(matrix("1 1000 -1", "0 1 1000000", "0 0 0"), 0);
        solutionUnknown(matrix("7 1000 -1", "0 1 1000000", "0 0 0"), 0);
        solutionIs(matrix("8 1000 0", "0 1 1000000", "0 0 0"), 0, -125000000, 1);
        solutionIs(matrix("1 -1000 0", "0 1 1000000", "0 0 0"), 0, MOST, 1);
        solutionUnknown(matrix("1 -1000 1", "0 1 1000000", "0 0 0"), 0);
    }

    @Sentence(promise = 18,
        says = "less each ENTRY of its ROW in another COLUMN times what that one has, by COLUMNS, "
            + "then by the PIVOT.")
    static void longQuotient() {
        solutionIs(matrix("1/1000 1000000", "0 0"), 0, MOST, 1);
        solutionUnknown(matrix("1/1001 999001", "0 0"), 0);
        solutionUnknown(matrix("1/1001 -999001", "0 0"), 0);
        solutionIs(matrix("-1000000 1/1000", "0 0"), 0, -1, MOST);
        solutionUnknown(matrix("999001 1/1001", "0 0"), 0);
        due("KIND is 1 all the same", matrix("999001 1/1001", "0 0").kind(), 1);
    }

    @Sentence(promise = 18,
        says = "if any product, difference, sum, quotient that comes on the way to it, in the "
            + "order told, is LONG.")
    static void inTheOrderTold() {
        RowPivots x = matrix("1 1000 1 -1 0", "0 1 0 0 1000000", "0 0 1 0 1", "0 0 0 1 1", "0 0 0 0 0");
        solutionUnknown(x, 0);
        solutionIs(x, 1, 1000000, 1);
        x = matrix("1 1 -1 1000 0", "0 1 0 0 1", "0 0 1 0 1", "0 0 0 1 1000000", "0 0 0 0 0");
        solutionIs(x, 0, -MOST, 1);
        x = matrix("1 -1 1000 1 0", "0 1 0 0 1", "0 0 1 0 1000000", "0 0 0 1 1", "0 0 0 0 0");
        solutionIs(x, 0, -MOST, 1);
    }

    @Sentence(promise = 18, says = "so is what is LONG, or if any product")
    static void onTheWay() {
        RowPivots x = matrix("1 1 0 5", "0 1/1001 0 999001", "0 0 1 7", "0 0 0 0");
        due("KIND", x.kind(), 1);
        solutionUnknown(x, 1);
        solutionUnknown(x, 0);
        solutionIs(x, 2, 7, 1);
        x = matrix("1 0 1 5", "0 1/1001 0 999001", "0 0 1 7", "0 0 0 0");
        solutionIs(x, 0, -2, 1);
        solutionUnknown(x, 1);
        x = matrix("1 2 0 5", "0 1 3 4", "0 0 1/1001 999001", "0 0 0 0");
        solutionUnknown(x, 2);
        solutionUnknown(x, 1);
        solutionUnknown(x, 0);
    }

    @Sentence(promise = 18, says = "PIVOT by PIVOT from the last to the first")
    static void fromTheLastToTheFirst() {
        RowPivots x = of("size 3 3;row 0 2 1 -1 8;row 1 -3 -1 2 -11;row 2 -2 1 2 -3;");
        solutionIs(x, 0, 2, 1);
        solutionIs(x, 1, 3, 1);
        solutionIs(x, 2, -1, 1);
        x = of("size 6 6;row 0 0 0 0 0 0 1 6;row 1 0 0 0 0 1 1 11;row 2 0 0 0 1 1 1 15;"
            + "row 3 0 0 1 1 1 1 18;row 4 0 1 1 1 1 1 20;row 5 1 1 1 1 1 1 21;");
        for (int column = 0; column < 6; column++) {
            solutionIs(x, column, column + 1, 1);
        }
    }

    @Sentence(promise = 18,
        says = "its SIDE, less each ENTRY of its ROW in another COLUMN times what that one has")
    static void anotherColumnMayBeTheFirst() {
        RowPivots x = matrix("1000 1 0", "1 0 1000000", "0 0 0");
        due("the first PIVOT's COLUMN", x.pivot(1, 0, 1), 1);
        solutionIs(x, 0, 1000000, 1);
        solutionIs(x, 1, -MOST, 1);
        x = matrix("1001 1 1000", "1 0 999001", "0 0 0");
        solutionIs(x, 0, 999001, 1);
        solutionUnknown(x, 1);
        x = of("size 3 3;row 0 1 2 1 9;row 1 1 1 0 3;row 2 1 0 0 1;");
        solutionIs(x, 0, 1, 1);
        solutionIs(x, 1, 2, 1);
        solutionIs(x, 2, 4, 1);
    }

    @Sentence(promise = {18, 20, 21, 22, 23, 24, 25, 27}, says = "the MATRIX as it is")
    static void oneAnswerLeavesTheNext() {
        String[] texts = {"size 3 3;row 0 2 1 -1 8;row 1 -3 -1/2 2 -11;row 2 -2 1 2/3 -3;",
            "size 3 3;row 0 2 1 -1 8;row 1 -3 -1/2 2 -11;row 2 -6 -1 4 -22;"};
        for (String text : texts) {
            for (int k = 0; k < 64; k++) {
                RowPivots x = of(text);
                asked(x, k / 8);
                due("call " + k % 8 + " behind call " + k / 8, asked(x, k % 8),
                    asked(of(text), k % 8));
            }
        }
    }

    private static int asked(RowPivots x, int call) {
        switch (call) {
            case 0: return x.solution(1, false);
            case 1: return x.zero(2, 0, false);
            case 2: return x.determinant(false);
            case 3: return x.inverse(1, 2, false);
            case 4: return x.minor(0, 0, false);
            case 5: return x.cramer(1, false);
            case 6: return x.would(1, 2, 3, 1, false);
            default: return x.residue(1, false);
        }
    }

    // ---- promise 20

    @Sentence(promise = 20,
        says = "SIDES at the end taken for 0, that one being 1, other FREE ones 0.")
    static void nullOfFree() {
        RowPivots x = of("size 2 5;row 0 2 1 0 3 0 9;row 1 0 0 4 1 0 7;");
        due("FREE", x.free(), 2 + 8 + 16);
        zeroIs(x, 1, 1, 1, 1);
        zeroIs(x, 1, 0, -1, 2);
        zeroIs(x, 1, 2, 0, 1);
        zeroIs(x, 1, 3, 0, 1);
        zeroIs(x, 1, 4, 0, 1);
        zeroIs(x, 3, 0, -3, 2);
        zeroIs(x, 3, 2, -1, 4);
        zeroIs(x, 3, 3, 1, 1);
        zeroIs(x, 4, 4, 1, 1);
        zeroIs(x, 4, 0, 0, 1);
        zeroIs(of("size 1 1;"), 0, 0, 1, 1);
        zeroIs(of("size 1 1;set 0 1 5;"), 0, 0, 1, 1);
        zeroIs(of("size 6 6;"), 5, 5, 1, 1);
        zeroIs(of("size 6 6;"), 5, 0, 0, 1);
        zeroIs(of("size 2 2;row 0 1 1 1;row 1 1 1 2;"), 1, 0, -1, 1);
    }

    @Sentence(promise = 20,
        says = "NULL of a FREE COLUMN, of a COLUMN. UNKNOWN: so; there are none such.")
    static void nullNoneSuch() {
        RowPivots x = rich();
        due("none is FREE", x.free(), 0);
        for (int free = -1; free <= 4; free++) {
            due("zero(" + free + ", 0)", x.zero(free, 0, false), UNKNOWN);
        }
        for (int column : NO_SUCH) {
            leavesAll("zero(" + column + ", 0)", y -> y.zero(column, 0, false), UNKNOWN);
            leavesAll("zero(0, " + column + ")", y -> y.zero(0, column, true), UNKNOWN);
        }
        x = of("size 2 3;row 0 1 0 2 5;row 1 0 1 3 5;");
        due("FREE", x.free(), 4);
        zeroIs(x, 0, 0, UNKNOWN, UNKNOWN);
        zeroIs(x, 1, 2, UNKNOWN, UNKNOWN);
        zeroIs(x, 2, 2, 1, 1);
        zeroIs(x, 2, 0, -2, 1);
        zeroIs(x, 2, 3, UNKNOWN, UNKNOWN);
        zeroIs(x, 3, 2, UNKNOWN, UNKNOWN);
        zeroIs(x, 2, -1, UNKNOWN, UNKNOWN);
        zeroIs(x, 2, LARGE, UNKNOWN, UNKNOWN);
        zeroIs(x, SMALL, 2, UNKNOWN, UNKNOWN);
        zeroIs(x, 34, 0, UNKNOWN, UNKNOWN);
    }

    @Sentence(promise = 20, says = "NULL of a FREE COLUMN: likewise")
    static void nullLong() {
        zeroIs(matrix("1/1000 1000000 0", "0 0 0"), 1, 0, -MOST, 1);
        zeroIs(matrix("1/1001 999001 0", "0 0 0"), 1, 0, UNKNOWN, UNKNOWN);
        zeroIs(matrix("1/1001 999001 0", "0 0 0"), 1, 1, 1, 1);
        zeroIs(matrix("1 1000 0 9", "0 1 1000000 9", "0 0 0 0"), 2, 0, MOST, 1);
        RowPivots x = matrix("1 1001 0 9", "0 1 999001 9", "0 0 0 0");
        zeroIs(x, 2, 0, UNKNOWN, UNKNOWN);
        zeroIs(x, 2, 1, -999001, 1);
        x = matrix("1 1000 -1 0", "0 1 1000000 0", "0 0 0 0");
        zeroIs(x, 2, 0, UNKNOWN, UNKNOWN);
        x = matrix("1 1000 1 0", "0 1 1000000 0", "0 0 0 0");
        zeroIs(x, 2, 0, MOST - 1, 1);
        x = matrix("1 0 1 0", "0 1/1001 999001 0", "0 0 0 0");
        zeroIs(x, 2, 1, UNKNOWN, UNKNOWN);
        zeroIs(x, 2, 0, -1, 1);
    }

    @Sentence(promise = 20, says = "SIDES at the end taken for 0")
    static void nullBrokenAtTheSide() {
        RowPivots x = matrix("1 1 999001", "1001 1001 0", "0 0 0");
        due("BROKEN at the SIDE", x.zero(1, 1, false), UNKNOWN);
        x = matrix("1 1 1000000", "1000 1000 0", "0 0 0");
        due("KIND 0", x.kind(), 0);
        zeroIs(x, 1, 1, 1, 1);
        zeroIs(x, 1, 0, -1, 1);
    }

    // ---- promise 21

    @Sentence(promise = 21,
        says = "DETERMINANT (as many ROWS as COLUMNS): 0, if RANK is less; else all PIVOTS, one "
            + "behind the other")
    static void determinants() {
        determinantIs(of("size 1 1;"), 0, 1);
        determinantIs(of("size 1 1;row 0 -5/7 9;"), -5, 7);
        determinantIs(of("size 2 2;row 0 1 2 1;row 1 2 4 5;"), 0, 1);
        determinantIs(of("size 6 6;set 0 0 2;set 1 1 2;set 2 2 2;set 3 3 2;set 4 4 2;set 5 5 1/3;"),
            32, 3);
        determinantIs(of("size 6 6;set 0 0 2;set 1 1 2;set 2 2 2;set 3 3 2;set 4 4 2;"), 0, 1);
        RowPivots x = matrix("1001 0 0 0", "0 999001 0 0", "0 0 0 0");
        determinantIs(x, 0, 1);
        x = of("size 2 2;");
        determinantIs(x, 0, 1);
    }

    @Sentence(promise = 21, says = "UNKNOWN: so; there is none.")
    static void noDeterminant() {
        for (int rows = 1; rows <= 6; rows++) {
            for (int columns = 1; columns <= 6; columns++) {
                RowPivots x = of("size " + rows + " " + columns + ";set 0 0 1;");
                boolean isThere = rows == columns;
                determinantIs(x, isThere ? rows == 1 ? 1 : 0 : UNKNOWN, isThere ? 1 : UNKNOWN);
            }
        }
        RowPivots x = rich();
        leavesAll("determinant(false)", y -> y.determinant(false), x.determinant(false));
        x = matrix("1 1 999001", "1001 1 0", "0 1 0");
        determinantIs(x, UNKNOWN, UNKNOWN);
    }

    @Sentence(promise = 21, says = "so is what is LONG, or if any product")
    static void determinantLong() {
        determinantIs(matrix("1000000 0 0", "0 1000 0"), MOST, 1);
        determinantIs(matrix("1000000 0 0", "0 -1000 0"), -MOST, 1);
        determinantIs(matrix("999001 0 0", "0 1001 0"), UNKNOWN, UNKNOWN);
        determinantIs(matrix("999001 0 0", "0 -1001 0"), UNKNOWN, UNKNOWN);
        determinantIs(matrix("999001 0 0 0", "0 1001 0 0", "0 0 1/7 0"), UNKNOWN, UNKNOWN);
        determinantIs(matrix("1/7 0 0 0", "0 999001 0 0", "0 0 1001 0"), 142857143, 1);
        determinantIs(matrix("1/1000000 0 0", "0 1/1000 0"), 1, MOST);
        determinantIs(matrix("1/500000220 0 0", "0 1/2 0"), UNKNOWN, UNKNOWN);
        determinantIs(matrix("1/500000220 0 0", "0 3/2 0"), 1, 333333480);
    }

    @Sentence(promise = 21, says = "(two of them that stand the other way round count once)")
    static void determinantSigns() {
        int[][] orders = {{0, 1, 2}, {0, 2, 1}, {1, 0, 2}, {1, 2, 0}, {2, 0, 1}, {2, 1, 0}};
        int[] signs = {1, -1, -1, 1, 1, -1};
        for (int k = 0; k < 6; k++) {
            RowPivots x = of("size 3 3;");
            for (int row = 0; row < 3; row++) {
                x.set(row, orders[k][row], row + 2, 1);
            }
            determinantIs(x, 24 * signs[k], 1);
        }
        determinantIs(of("size 2 2;set 0 1 1;set 1 0 1;"), -1, 1);
        determinantIs(of("size 4 4;set 0 3 1;set 1 2 1;set 2 1 1;set 3 0 1;"), 1, 1);
        determinantIs(of("size 6 6;set 0 5 1;set 1 4 1;set 2 3 1;set 3 2 1;set 4 1 1;set 5 0 1;"), -1, 1);
        determinantIs(of("size 2 2;row 0 0 -3 0;row 1 -5 0 0;"), -15, 1);
    }

    // ---- promise 22

    @Sentence(promise = 22, says = "column k of it is the SOLUTION by SIDES 1 in ROW k, 0 else")
    static void inverses() {
        RowPivots x = of("size 2 2;row 0 2 1 9;row 1 5 3 9;");
        inverseIs(x, 0, 0, 3, 1);
        inverseIs(x, 0, 1, -1, 1);
        inverseIs(x, 1, 0, -5, 1);
        inverseIs(x, 1, 1, 2, 1);
        inverseIs(of("size 1 1;row 0 -3/7 5;"), 0, 0, -7, 3);
        x = of("size 6 6;set 0 5 1/2;set 1 4 1/3;set 2 3 1/4;set 3 2 1/5;set 4 1 1/6;set 5 0 1/7;");
        for (int row = 0; row < 6; row++) {
            for (int column = 0; column < 6; column++) {
                inverseIs(x, row, column, row + column == 5 ? column + 2 : 0, 1);
            }
        }
    }

    @Sentence(promise = 22,
        says = "there is none without as many ROWS as COLUMNS, or with RANK less")
    static void noInverse() {
        inverseIs(of("size 1 2;row 0 1 1 0;"), 0, 0, UNKNOWN, UNKNOWN);
        inverseIs(of("size 2 1;row 0 1 1;row 1 0 0;"), 0, 0, UNKNOWN, UNKNOWN);
        inverseIs(of("size 1 1;"), 0, 0, UNKNOWN, UNKNOWN);
        RowPivots x = of("size 2 2;row 0 1 0 0;row 1 0 0 0;");
        inverseIs(x, 0, 0, UNKNOWN, UNKNOWN);
        inverseIs(x, 1, 1, UNKNOWN, UNKNOWN);
        x = of("size 2 2;row 0 1 2 0;row 1 2 4 0;");
        inverseIs(x, 0, 1, UNKNOWN, UNKNOWN);
    }

    @Sentence(promise = 22,
        says = "INVERSE, in a ROW and a COLUMN. UNKNOWN: so; there is none such.")
    static void inverseNoneSuch() {
        for (int k : NO_SUCH) {
            leavesAll("inverse(" + k + ", 0)", x -> x.inverse(k, 0, false), UNKNOWN);
            leavesAll("inverse(0, " + k + ")", x -> x.inverse(0, k, true), UNKNOWN);
        }
        RowPivots x = rich();
        due("the last", x.inverse(2, 2, true) > 0, true);
        leavesAll("inverse(2, 2)", y -> y.inverse(2, 2, false), x.inverse(2, 2, false));
        inverseIs(of("size 6 6;"), 6, 0, UNKNOWN, UNKNOWN);
    }

    @Sentence(promise = 22, says = "INVERSE: column k of it is the SOLUTION by SIDES")
    static void inverseLong() {
        inverseIs(matrix("1000000000 5"), 0, 0, 1, MOST);
        inverseIs(matrix("1/1000000000 5"), 0, 0, MOST, 1);
        RowPivots x = matrix("1 1000000 9", "0 1/1000 9");
        inverseIs(x, 0, 1, -MOST, 1);
        inverseIs(x, 1, 1, 1000, 1);
        inverseIs(x, 0, 0, 1, 1);
        inverseIs(x, 1, 0, 0, 1);
        x = matrix("1 999001 9", "0 1/1001 9");
        inverseIs(x, 0, 1, UNKNOWN, UNKNOWN);
        inverseIs(x, 1, 1, 1001, 1);
        inverseIs(x, 0, 0, 1, 1);
    }

    @Sentence(promise = 22, says = "column k of it is the SOLUTION by SIDES 1 in ROW k, 0 else")
    static void inverseWithoutItsSides() {
        RowPivots x = matrix("1 1 999001", "1001 1 0");
        due("BROKEN at the SIDE", x.kind(), UNKNOWN);
        inverseIs(x, 0, 0, -1, 1000);
        inverseIs(x, 0, 1, 1, 1000);
        inverseIs(x, 1, 0, 1001, 1000);
        x = matrix("1/1001 1 0 0", "999001 1 0 0", "0 0 1 0");
        inverseIs(x, 0, 0, UNKNOWN, UNKNOWN);
    }

    // ---- promise 23

    @Sentence(promise = 23,
        says = "the DETERMINANT without them, SIDES being 0, times -1, if both numbers together "
            + "are odd (of 1 ROW: 1).")
    static void minors() {
        minorIs(of("size 1 1;"), 0, 0, 1, 1);
        minorIs(of("size 1 1;row 0 5/3 2;"), 0, 0, 1, 1);
        RowPivots x = of("size 2 2;row 0 2 3/5 7;row 1 -4 9 7;");
        minorIs(x, 0, 0, 9, 1);
        minorIs(x, 0, 1, 4, 1);
        minorIs(x, 1, 0, -3, 5);
        minorIs(x, 1, 1, 2, 1);
        x = of("size 3 3;row 0 1 2 3 1;row 1 4 5 6 1;row 2 7 8 10 1;");
        int[][] due = {{2, 2, -3}, {4, -11, 6}, {-3, 6, -3}};
        for (int row = 0; row < 3; row++) {
            for (int column = 0; column < 3; column++) {
                minorIs(x, row, column, due[row][column], 1);
            }
        }
        x = of("size 6 6;set 0 5 2;set 1 4 1;set 2 3 1;set 3 2 1;set 4 1 1;set 5 0 3;");
        minorIs(x, 5, 0, -2, 1);
        minorIs(x, 0, 5, -3, 1);
        minorIs(x, 5, 5, 0, 1);
    }

    @Sentence(promise = 23, says = "MINOR. UNKNOWN: so; there is none such.")
    static void minorNoneSuch() {
        for (int k : NO_SUCH) {
            leavesAll("minor(" + k + ", 0)", x -> x.minor(k, 0, false), UNKNOWN);
            leavesAll("minor(0, " + k + ")", x -> x.minor(0, k, true), UNKNOWN);
            minorIs(of("size 1 1;"), k, 0, UNKNOWN, UNKNOWN);
            minorIs(of("size 1 1;"), 0, k, UNKNOWN, UNKNOWN);
        }
        minorIs(of("size 1 1;"), 0, 1, UNKNOWN, UNKNOWN);
        minorIs(of("size 1 2;"), 0, 0, UNKNOWN, UNKNOWN);
        minorIs(of("size 2 1;"), 0, 0, UNKNOWN, UNKNOWN);
        minorIs(of("size 6 5;"), 0, 0, UNKNOWN, UNKNOWN);
        RowPivots x = rich();
        due("the last", x.minor(2, 2, true) > 0, true);
        leavesAll("minor(2, 2)", y -> y.minor(2, 2, false), x.minor(2, 2, false));
    }

    @Sentence(promise = 23, says = "MINOR of a ROW and a COLUMN (as many ROWS as COLUMNS)")
    static void minorLong() {
        RowPivots x = matrix("5 5 1000000 5", "5 1000 5 5", "5 0 0 5");
        x.set(0, 1, 0, 1);
        x.set(1, 2, 0, 1);
        minorIs(x, 2, 0, -MOST, 1);
        x = matrix("5 0 999001 5", "5 1001 0 5", "5 0 0 5");
        minorIs(x, 2, 0, UNKNOWN, UNKNOWN);
        x = matrix("1 1 0 999001", "1001 1 0 0", "0 0 5 0");
        due("BROKEN at the SIDE", x.determinant(false), UNKNOWN);
        minorIs(x, 2, 2, -1000, 1);
        x = matrix("1/1001 1 0 0", "999001 1 0 0", "0 0 5 0");
        due("BROKEN", x.determinant(false), UNKNOWN);
        minorIs(x, 2, 2, UNKNOWN, UNKNOWN);
        minorIs(x, 1, 0, -5, 1);
    }

    // ---- promise 24

    @Sentence(promise = 24,
        says = "CRAMER of a COLUMN (likewise): the DETERMINANT, were it the SIDE, SIDES being 0.")
    static void cramers() {
        cramerIs(of("size 1 1;row 0 7 -5/3;"), 0, -5, 3);
        cramerIs(of("size 1 1;row 0 7 0;"), 0, 0, 1);
        RowPivots x = of("size 2 2;row 0 2 1 5;row 1 1 3 10;");
        cramerIs(x, 0, 5, 1);
        cramerIs(x, 1, 15, 1);
        x = of("size 2 2;row 0 1 2 1;row 1 2 4 5;");
        cramerIs(x, 0, -6, 1);
        cramerIs(x, 1, 3, 1);
        x = of("size 6 6;set 0 0 1;set 1 1 1;set 2 2 1;set 3 3 1;set 4 4 1;set 5 6 7/9;set 0 6 4;");
        cramerIs(x, 5, 7, 9);
        cramerIs(x, 0, 0, 1);
    }

    @Sentence(promise = 24, says = "CRAMER. UNKNOWN: so; there is none such.")
    static void cramerNoneSuch() {
        for (int column : NO_SUCH) {
            leavesAll("cramer(" + column + ")", x -> x.cramer(column, false), UNKNOWN);
        }
        cramerIs(of("size 1 1;"), 1, UNKNOWN, UNKNOWN);
        cramerIs(of("size 2 1;"), 0, UNKNOWN, UNKNOWN);
        cramerIs(of("size 1 2;"), 0, UNKNOWN, UNKNOWN);
        cramerIs(of("size 6 6;"), 6, UNKNOWN, UNKNOWN);
        RowPivots x = rich();
        due("the last", x.cramer(2, true) > 0, true);
        leavesAll("cramer(2)", y -> y.cramer(2, false), x.cramer(2, false));
    }

    @Sentence(promise = 24, says = "CRAMER of a COLUMN (likewise)")
    static void cramerLong() {
        RowPivots x = matrix("5 0 1000000", "0 1000 0");
        cramerIs(x, 0, MOST, 1);
        x = matrix("5 0 999001", "0 1001 0");
        cramerIs(x, 0, UNKNOWN, UNKNOWN);
        x = matrix("1 1 999001", "1001 1 0");
        due("BROKEN at the SIDE", x.determinant(false), UNKNOWN);
        cramerIs(x, 0, 999001, 1);
        cramerIs(x, 1, UNKNOWN, UNKNOWN);
        x = matrix("5 1 1/1001", "0 1 999001", "0 0 1");
        cramerIs(x, 0, UNKNOWN, UNKNOWN);
        x = matrix("0 1 1/1001", "5 1 999");
        cramerIs(x, 0, -999998, 1001);
    }

    // ---- promise 25

    private static void wouldIs(RowPivots x, int side, int up, int low, int column, int upper,
            int lower) {
        ratio("would(" + side + ", " + up + "/" + low + ", " + column + ")",
            x.would(side, up, low, column, false), x.would(side, up, low, column, true), upper,
            lower);
    }

    @Sentence(promise = 25,
        says = "SIDES are the ENTRIES of a COLUMN (of the SIDE: as it is), times a told fraction")
    static void woulds() {
        RowPivots x = of("size 2 2;row 0 2 1 5;row 1 1 3 10;");
        wouldIs(x, 0, 1, 1, 0, 1, 1);
        wouldIs(x, 0, 1, 1, 1, 0, 1);
        wouldIs(x, 1, 999, 1, 1, 999, 1);
        wouldIs(x, 1, -999, 1, 1, -999, 1);
        wouldIs(x, 1, 1, 99, 1, 1, 99);
        wouldIs(x, 2, 1, 1, 1, 3, 1);
        wouldIs(x, 2, -5, 2, 1, -15, 2);
        wouldIs(x, 2, 0, 99, 1, 0, 1);
        wouldIs(x, 2, 0, 1, 0, 0, 1);
        x = of("size 6 6;set 5 5 2;set 5 6 8;");
        wouldIs(x, 5, 1, 1, 5, 1, 1);
        wouldIs(x, 6, 1, 1, 5, 4, 1);
        wouldIs(x, 6, 1, 1, 0, 0, 1);
    }

    @Sentence(promise = 25, says = "UNKNOWN: so; KIND is 0 then; there are none such.")
    static void wouldNoneSuch() {
        int[][] none = {{-1, 1, 1, 0}, {4, 1, 1, 0}, {SMALL, 1, 1, 0}, {LARGE, 1, 1, 0}, {0, 1000, 1, 0},
            {0, -1000, 1, 0}, {0, 1, 0, 0}, {0, 1, 100, 0}, {0, 1, -1, 0}, {0, 0, 0, 0},
            {0, 1, 1, -1}, {0, 1, 1, 3}, {0, 1, 1, SMALL}, {0, 1, 1, LARGE}, {0, LARGE, 1, 0},
            {0, 1, SMALL, 0}};
        for (int[] a : none) {
            leavesAll("would(" + a[0] + ", " + a[1] + "/" + a[2] + ", " + a[3] + ")",
                x -> x.would(a[0], a[1], a[2], a[3], false), UNKNOWN);
        }
        leavesAll("would(2)", x -> x.would(2, 1, 99, 2, true), 99);
    }

    @Sentence(promise = 25, says = "KIND is 0 then")
    static void wouldBeOfKind0() {
        RowPivots x = of("size 2 2;row 0 1 1 1;row 1 1 1 2;");
        due("KIND", x.kind(), 0);
        wouldIs(x, 2, 1, 1, 0, UNKNOWN, UNKNOWN);
        wouldIs(x, 2, 0, 1, 0, 0, 1);
        wouldIs(x, 1, 5, 1, 0, 5, 1);
        x = of("size 2 2;row 0 0 0 0;row 1 0 1 1;");
        wouldIs(x, 1, 1, 1, 1, 1, 1);
        wouldIs(x, 0, 1, 1, 1, 0, 1);
    }

    @Sentence(promise = 25, says = "so is what is LONG, or if any product")
    static void wouldBeLong() {
        RowPivots x = matrix("1 250000000", "0 0");
        wouldIs(x, 1, 4, 1, 0, MOST, 1);
        wouldIs(x, 1, -4, 1, 0, -MOST, 1);
        wouldIs(x, 1, 5, 1, 0, UNKNOWN, UNKNOWN);
        x = matrix("7 142857143", "0 0");
        wouldIs(x, 1, 7, 1, 0, UNKNOWN, UNKNOWN);
        wouldIs(x, 1, 6, 1, 0, 857142858, 7);
        x = matrix("1 1/500000000", "0 0");
        wouldIs(x, 1, 1, 2, 0, 1, MOST);
        x = matrix("1 1/500000220", "0 0");
        wouldIs(x, 1, 1, 2, 0, UNKNOWN, UNKNOWN);
        x = matrix("1 1 1000000", "1000 1 0", "0 0 0");
        wouldIs(x, 2, 1, 1, 1, 1000000000, 999);
        wouldIs(x, 2, 2, 1, 1, UNKNOWN, UNKNOWN);
        wouldIs(x, 2, 1, 2, 1, 500000000, 999);
    }

    @Sentence(promise = 25, says = "What a SIDE told anew would do, the MATRIX as it is")
    static void wouldWithoutItsSides() {
        RowPivots x = matrix("1 1 999001", "1001 1 0");
        due("BROKEN at the SIDE", x.solution(0, false), UNKNOWN);
        wouldIs(x, 2, 1, 1, 0, UNKNOWN, UNKNOWN);
        wouldIs(x, 0, 3, 1, 0, 3, 1);
        wouldIs(x, 1, 3, 1, 1, 3, 1);
        x = matrix("1/1001 1 0", "999001 1 0", "0 0 0");
        wouldIs(x, 1, 1, 1, 1, UNKNOWN, UNKNOWN);
    }

    // ---- promise 27

    @Sentence(promise = 27,
        says = "ENTRIES of a ROW of the MATRIX times what the SOLUTION has, summed by COLUMNS, "
            + "less its SIDE (0, if all is well).")
    static void residues() {
        RowPivots x = of("size 3 2;row 0 2 1 5;row 1 1 3 10;row 2 3 4 15;");
        for (int row = 0; row < 3; row++) {
            residueIs(x, row, 0, 1);
        }
        residueIs(of("size 1 1;"), 0, 0, 1);
        residueIs(of("size 6 6;"), 5, 0, 1);
        residueIs(of("size 2 3;row 0 1 2 3 4;row 1 2 4 7 1/9;"), 1, 0, 1);
    }

    @Sentence(promise = 27, says = "UNKNOWN: so; KIND is 0; no such ROW.")
    static void residueNoSuch() {
        for (int row : NO_SUCH) {
            leavesAll("residue(" + row + ")", x -> x.residue(row, false), UNKNOWN);
        }
        leavesAll("the last ROW", x -> x.residue(2, true), 1);
        RowPivots x = of("size 2 1;row 0 1 1;row 1 1 2;");
        residueIs(x, 0, UNKNOWN, UNKNOWN);
        residueIs(x, 1, UNKNOWN, UNKNOWN);
        residueIs(of("size 1 1;row 0 0 1;"), 0, UNKNOWN, UNKNOWN);
        residueIs(of("size 6 6;"), 6, UNKNOWN, UNKNOWN);
        residueIs(of("size 1 6;"), 1, UNKNOWN, UNKNOWN);
    }

    @Sentence(promise = 27, says = "ENTRIES of a ROW of the MATRIX times what the SOLUTION has")
    static void residueLongProduct() {
        RowPivots x = matrix("1 1000 0", "1000 1000001 1000", "0 0 0");
        solutionIs(x, 0, -1000000, 1);
        solutionIs(x, 1, 1000, 1);
        residueIs(x, 0, 0, 1);
        residueIs(x, 1, UNKNOWN, UNKNOWN);
        x = matrix("1 1000 0", "1000 1000001 999", "0 0 0");
        solutionIs(x, 1, 999, 1);
        residueIs(x, 1, 0, 1);
        x = matrix("1/1001 999001", "0 0");
        due("KIND", x.kind(), 1);
        residueIs(x, 0, UNKNOWN, UNKNOWN);
    }

    @Sentence(promise = 27, says = "summed by COLUMNS")
    static void residueLongSum() {
        RowPivots x = of("size 4 3;set 0 0 1;set 1 1 1;set 2 2 1;row 3 1 1 1 0;");
        residueIs(x, 3, 0, 1);
        x = matrix("1 0 0 600000000", "0 1 0 400000000", "0 0 1 -1", "1 1 1 999999999", "0 0 0 0");
        solutionIs(x, 1, 400000000, 1);
        residueIs(x, 3, 0, 1);
        x = matrix("1 0 0 600000000", "0 0 1 -2", "0 1 0 400000001", "1 1 1 999999999", "0 0 0 0");
        due("KIND", x.kind(), 1);
        solutionIs(x, 1, 400000001, 1);
        residueIs(x, 3, UNKNOWN, UNKNOWN);
        residueIs(x, 2, 0, 1);
    }

    public static void main(String[] args) throws Exception {
        runSentences(SolutionEdgesTest.class, 18, 20, 21, 22, 23, 24, 25, 27);
        finish();
    }
}
