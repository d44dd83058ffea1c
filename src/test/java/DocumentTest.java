import java.util.ArrayList;
import java.util.List;
import java.util.function.ToIntFunction;

/**
 * The document from its first line on: one test for each sentence that names no edge of its own,
 * which the other tests of sentences so leave out.
 */
public final class DocumentTest extends Checks {
    private static final int CALLS = 512;

    private static void rowIs(RowPivots x, int row, int... uppers) {
        for (int column = 0; column < uppers.length; column++) {
            entryIs(x, row, column, uppers[column], 1);
        }
    }

    // ---- what it is, and Terms 1

    @Sentence(promise = {1, 2, 3, 4, 6, 12, 14},
        says = "An object is used for at most 512 calls after it has been made")
    static void allOf512CallsAnswer() {
        RowPivots x = new RowPivots();
        int calls = 0;
        for (int k = 0; calls + 8 <= CALLS; k++) {
            int told = k % 999 + 1;
            due("set " + k, x.set(1, 2, told, 1), 0);
            due("scale " + k, x.scale(1, -1, 2), 0);
            due("count(3) " + k, x.count(3), Math.min(2 * k + 2, 20));
            due("feed " + k, x.feed(0, 0, 0, 0, 0), 20);
            due("end " + k, x.end(7), 7);
            due("count(4) " + k, x.count(4), 7);
            due("text " + k, x.text(), NONE);
            due("SIDE " + k, x.entry(1, 2, false), told % 2 == 0 ? -told / 2 : -told);
            calls += 8;
        }
        due("calls", calls, CALLS);
    }

    @Sentence(promise = {6, 13, 15},
        says = "numbered from 0 on, and one more column, the SIDE, which has the number COLUMNS")
    static void theSideHasTheNumberColumns() {
        for (int columns = 1; columns <= 6; columns++) {
            RowPivots x = of("size 2 " + columns + ";");
            due("set", x.set(1, columns, 5, 7), 0);
            entryIs(x, 1, columns, 5, 7);
            due("not of COLUMNS", x.count(2), 0);
            due("pattern of the ROW", x.pattern(1, false), 1 << columns);
            due("pattern of the SIDE", x.pattern(columns, true), 2);
            due("a ROW of 0s and a SIDE", x.kind(), 0);
            due("set behind it", x.set(1, columns + 1, 5, 7), 1);
        }
    }

    @Sentence(promise = 6, says = "SET an ENTRY")
    static void setIsOfOneEntry() {
        RowPivots x = of("size 2 2;row 0 1 2 3;row 1 4 5 6;");
        due("set", x.set(1, 0, 9, 1), 0);
        rowIs(x, 0, 1, 2, 3);
        rowIs(x, 1, 9, 5, 6);
    }

    @Sentence(promise = 7, says = "SWAP two ROWS")
    static void swapIsOfTwoRows() {
        RowPivots x = of("size 3 2;row 0 1 2 3;row 1 4 5 6;row 2 7 8 9;");
        due("swap", x.swap(2, 0), 0);
        rowIs(x, 0, 7, 8, 9);
        rowIs(x, 1, 4, 5, 6);
        rowIs(x, 2, 1, 2, 3);
    }

    @Sentence(promise = 8, says = "SCALE a ROW by a told fraction, not 0")
    static void scaleIsOfOneRow() {
        RowPivots x = of("size 2 2;row 0 2 4 6;row 1 4 5 6;");
        due("scale", x.scale(0, -3, 2), 0);
        rowIs(x, 0, -3, -6, -9);
        rowIs(x, 1, 4, 5, 6);
        due("scale by 0", x.scale(0, 0, 1), 2);
    }

    @Sentence(promise = 9, says = "ADD to a ROW a told fraction times another ROW")
    static void addIsToOneRow() {
        RowPivots x = of("size 2 2;row 0 2 4 6;row 1 4 5 6;");
        due("add", x.add(1, 0, -3, 2), 0);
        rowIs(x, 0, 2, 4, 6);
        rowIs(x, 1, 1, -1, -3);
    }

    @Sentence(promise = 10, says = "REDUCE by a RULE (below)")
    static void reduceByEachRule() {
        String told = "size 3 3;row 0 1 2 0 1;row 1 2 9 0 4;row 2 0 3 5 6;";
        RowPivots x = of(told);
        due("by RULE 0", x.reduce(0), 0);
        rowIs(x, 0, 1, 2, 0, 1);
        rowIs(x, 1, 0, 5, 0, 2);
        entryIs(x, 2, 3, 24, 5);
        x = of(told);
        due("by RULE 1", x.reduce(1), 0);
        rowIs(x, 0, 1, 2, 0, 1);
        rowIs(x, 1, 0, 5, 0, 2);
        rowIs(x, 2, 0, 3, 5, 6);
        x = of(told);
        due("by RULE 2", x.reduce(2), 0);
        rowIs(x, 1, 2, 9, 0, 4);
        entryIs(x, 0, 0, 5, 9);
        entryIs(x, 0, 3, 1, 9);
        due("0 in the PIVOT's COLUMN", x.entry(0, 1, false), 0);
        due("0 in the PIVOT's COLUMN", x.entry(2, 1, false), 0);
    }

    @Sentence(promise = {8, 11}, says = "(it comes of 4, with its ROW and COLUMN")
    static void whatLongComesOf() {
        RowPivots x = matrix("0 1000000 0", "0 0 0");
        due("scale", x.scale(0, 999, 1), 0);
        due("scale", x.scale(0, 2, 1), 3);
        whyIs(x, 3, 0, 1);
    }

    // ---- Terms 2

    @Sentence(promise = {10, 16}, says = "To each other LIVE ROW, rising, that is not 0 in the "
        + "PIVOT's COLUMN, is added the PIVOT's ROW, times a FACTOR (over the SIDE, too): 0 less "
        + "that ENTRY by the PIVOT.")
    static void rowsAreGoneThroughRising() {
        RowPivots x = of("size 4 2;row 0 2 6 4;row 1 0 1 1;row 2 -3 5 7;row 3 1 3 2;");
        due("reduce", x.reduce(0), 0);
        rowIs(x, 0, 2, 6, 4);
        rowIs(x, 1, 0, 1, 1);
        rowIs(x, 2, 0, 0, -1);
        rowIs(x, 3, 0, 0, 0);
        x = matrix("1/1001 0", "999001 0", "1/1001 0", "0 0");
        due("BROKEN", x.reduce(2), 3);
        whyIs(x, 3, 0, 0);
        x = matrix("0 0", "999001 0", "1/1001 0", "0 0");
        due("BROKEN", x.reduce(2), 3);
        whyIs(x, 3, 2, 0);
        x = matrix("1/1001 0", "999001 0", "999001 0", "0 0");
        due("BROKEN", x.reduce(0), 3);
        whyIs(x, 3, 1, 0);
    }

    @Sentence(promise = {10, 16}, says = "As long as an ENTRY of LIVE ones is not 0: the PIVOT is "
        + "one of these")
    static void pivotsStandEachAlone() {
        RowPivots x = of("size 4 5;row 0 1 2 3 4 5 6;row 1 2 4 6 8 1 3;row 2 0 0 7 1 2 2;row 3 1 2 3 4 6 0;");
        for (int rule = 0; rule < 3; rule++) {
            int rows = 0;
            int columns = 0;
            for (int k = 0; k < 3; k++) {
                rows |= 1 << x.pivot(rule, k, 0);
                columns |= 1 << x.pivot(rule, k, 1);
                due("not 0", x.pivot(rule, k, 4) != 0, true);
            }
            due("ROWS by RULE " + rule, Integer.bitCount(rows), 3);
            due("COLUMNS by RULE " + rule, Integer.bitCount(columns), 3);
            due("no fourth", x.pivot(rule, 3, 0), UNKNOWN);
        }
    }

    @Sentence(promise = {16, 26}, says = "RANK: how many PIVOTS.")
    static void rankIsHowManyPivots() {
        RowPivots x = of("size 3 3;row 0 1 2 3 0;row 1 4 5 6 0;row 2 7 8 9 0;");
        for (int rule = 0; rule < 3; rule++) {
            due("RANK by RULE " + rule, x.pivot(rule, NONE, 0), 2);
        }
        due("were the last 10", x.ranked(2, 2, 10, 1), 3);
        due("were it as it is", x.ranked(2, 2, 9, 1), 2);
    }

    @Sentence(promise = 21, says = "times -1, if ROWS, in the order of their PIVOTS' COLUMNS, are "
        + "turned round an odd number of times (two of them that stand the other way round count "
        + "once)")
    static void signsOfAllOrders() {
        for (int size = 1; size <= 6; size++) {
            for (int[] order : ordersOf(size)) {
                signOfOne(order);
            }
        }
    }

    private static void signOfOne(int[] order) {
        StringBuilder told = new StringBuilder("size " + order.length + " " + order.length + ";");
        int product = 1;
        for (int column = 0; column < order.length; column++) {
            int value = 2 * column + 3;
            told.append("set " + order[column] + " " + column + " " + value + ";");
            product *= value;
            for (int other = 0; other < column; other++) {
                product = order[other] > order[column] ? -product : product;
            }
        }
        ratio("determinant of " + told, of(told.toString()).determinant(false),
            of(told.toString()).determinant(true), product, 1);
    }

    private static List<int[]> ordersOf(int size) {
        List<int[]> orders = new ArrayList<>();
        orders.add(new int[0]);
        for (int length = 1; length <= size; length++) {
            List<int[]> longer = new ArrayList<>();
            for (int[] order : orders) {
                for (int at = 0; at < length; at++) {
                    int[] next = new int[length];
                    System.arraycopy(order, 0, next, 0, at);
                    next[at] = length - 1;
                    System.arraycopy(order, at, next, at + 1, length - 1 - at);
                    longer.add(next);
                }
            }
            orders = longer;
        }
        return orders;
    }

    @Sentence(promise = 17, says = "KIND. UNKNOWN: so.")
    static void kinds() {
        due("none solves", of("size 2 1;row 0 1 1;row 1 1 2;").kind(), 0);
        due("one solves", of("size 2 1;row 0 1 1;row 1 2 2;").kind(), 1);
        due("many solve", of("size 1 2;row 0 1 1 1;").kind(), 2);
        due("BROKEN", matrix("1/1001 0", "999001 0", "0 0").kind(), UNKNOWN);
    }

    @Sentence(promise = 18, says = "SOLUTION of a COLUMN: its upper, or (lower) lower number.")
    static void solutionHasTwoNumbers() {
        RowPivots x = of("size 2 2;row 0 2 1 3;row 1 1 -3 1;");
        ratio("solution(0)", x.solution(0, false), x.solution(0, true), 10, 7);
        ratio("solution(1)", x.solution(1, false), x.solution(1, true), 1, 7);
        ratio("would(2)", x.would(2, -7, 2, 0, false), x.would(2, -7, 2, 0, true), -5, 1);
        ratio("would(1)", x.would(1, 2, 3, 1, false), x.would(1, 2, 3, 1, true), 2, 3);
    }

    @Sentence(promise = 19, says = "FREE COLUMNS, as bits.")
    static void freeColumns() {
        due("all", of("size 3 4;").free(), 15);
        due("some", of("size 2 4;row 0 0 1 0 2 0;row 1 0 0 0 3 0;").free(), 5);
        due("none", of("size 2 2;row 0 0 1 0;row 1 1 0 0;").free(), 0);
    }

    @Sentence(promise = 21, says = "The DETERMINANT.")
    static void determinants() {
        RowPivots x = of("size 3 3;row 0 2 0 1 9;row 1 1 3 2 9;row 2 1 1 1/2 9;");
        ratio("determinant", x.determinant(false), x.determinant(true), -3, 1);
        x.scale(0, 1, 4);
        ratio("determinant", x.determinant(false), x.determinant(true), -3, 4);
    }

    // ---- Terms 3

    @Sentence(promise = 4, says = "LINE: 'row' N F {F}")
    static void lineRow() {
        RowPivots x = of("size 2 3;row 1 5 -6 7/2 8;row 1 1 2 3 -4/3;");
        rowIs(x, 0, 0, 0, 0, 0);
        rowIs(x, 1, 1, 2, 3);
        entryIs(x, 1, 3, -4, 3);
    }

    @Sentence(promise = 4, says = "'set' N N F | 'swap' N N | 'scale' N F")
    static void linesSetSwapScale() {
        RowPivots x = of("size 2 2;set 0 1 -6/4;set 1 2 5;swap 0 1;scale 1 4/3;");
        rowIs(x, 0, 0, 0, 5);
        rowIs(x, 1, 0, -2, 0);
    }

    @Sentence(promise = 4, says = "'reduce' N (a RULE)")
    static void lineReduce() {
        for (int rule = 0; rule < 3; rule++) {
            RowPivots x = of("size 2 2;row 0 1 2 3;row 1 4 5 6;");
            x.reduce(rule);
            RowPivots y = of("size 2 2;row 0 1 2 3;row 1 4 5 6;reduce " + rule + ";");
            x.image(0);
            x.again(0);
            sameText("'reduce " + rule + "'", matrixOf(y), matrixOf(x));
        }
    }

    @Sentence(promise = 5, says = "2 a NUMBER that can't be")
    static void numbersThatCannotBe() {
        faulty("size 7 1;", 2, 5);
        faulty("size 1 1;row 1 1 1;", 2, 13);
        faulty("size 1 1;set 0 2 1;", 2, 15);
        faulty("size 1 1;reduce 3;", 2, 16);
        faulty("size 1 1;set 0 0 1/0;", 2, 19);
    }

    // ---- constants, and what calls are told by

    @Sentence(promise = {2, 13}, says = "`NONE = -1`: There is none.")
    static void constants() {
        due("NONE", RowPivots.NONE, -1);
        due("UNKNOWN", RowPivots.UNKNOWN, -2000000000);
        due("none to be UNDONE", new RowPivots().undo(), -1);
        due("no such ENTRY", new RowPivots().entry(2, 0, false), -2000000000);
    }

    @Sentence(promise = 2, says = "how many it has.")
    static void feedTellsHowMany() {
        RowPivots x = new RowPivots();
        for (int bytes = 20; bytes <= 400; bytes += 20) {
            due("feed", x.feed(1, 2, 3, 4, 5), bytes);
        }
        due("feed", x.feed(1, 2, 3, 4, 5), NONE);
    }

    @Sentence(promise = 11, says = "level 0, or what it comes of, level 1 (of 3: 4): what 0: the "
        + "reason, 1: the ROW, 2: the COLUMN (of 4; else NONE).")
    static void whyOfEachReason() {
        RowPivots x = matrix("0 0 0", "0 0 1000000000");
        whyIs(x, 0, 0, 0);
        x.swap(0, 2);
        whyIs(x, 1, 0, 0);
        x.swap(0, 0);
        whyIs(x, 2, 0, 0);
        x.add(0, 1, 2, 1);
        whyIs(x, 3, 0, 2);
        x.add(0, 1, 1, 1);
        whyIs(x, 0, 0, 0);
    }

    @Sentence(promise = 16, says = "Of the k-th PIVOT by a RULE, what 0: ROW, 1: COLUMN, 2: FILL, "
        + "3: WEIGHT, 4, 5: upper, lower number")
    static void whatOfAPivot() {
        RowPivots x = of("size 3 3;row 0 2/3 1 5 0;row 1 1 0 0 0;row 2 1 0 7 0;");
        int[][] due = {{0, 0, 3, 4, 2, 3}, {1, 1, 0, 1, -3, 2}, {2, 2, 0, 0, 7, 1}};
        for (int k = 0; k < 3; k++) {
            for (int what = 0; what < 6; what++) {
                due("pivot(0, " + k + ", " + what + ")", x.pivot(0, k, what), due[k][what]);
            }
        }
        due("FILL of all", x.pivot(0, NONE, 1), 3);
    }

    @Sentence(promise = {5, 11, 13, 14, 15, 16, 17, 18, 19, 20, 21, 22, 23, 24, 25, 26, 27, 28},
        says = "Nothing is promised beyond the answers and state changes described above")
    static void askingChangesNothing() {
        List<ToIntFunction<RowPivots>> asked = new ArrayList<>();
        asked.add(x -> x.fault(0));
        asked.add(x -> x.why(1, 1));
        asked.add(x -> x.entry(1, 1, true));
        asked.add(x -> x.count(5));
        asked.add(x -> x.pattern(1, true));
        asked.add(x -> x.pivot(2, 1, 4));
        asked.add(x -> x.kind());
        asked.add(x -> x.solution(1, false));
        asked.add(x -> x.free());
        asked.add(x -> x.zero(0, 0, false));
        asked.add(x -> x.determinant(true));
        asked.add(x -> x.inverse(0, 1, false));
        asked.add(x -> x.minor(1, 2, false));
        asked.add(x -> x.cramer(1, true));
        asked.add(x -> x.would(1, 2, 3, 0, false));
        asked.add(x -> x.ranked(2, 2, 5, 3));
        asked.add(x -> x.residue(1, false));
        for (int k = 0; k < asked.size(); k++) {
            ToIntFunction<RowPivots> one = asked.get(k);
            same("asked " + k, () -> {
                RowPivots x = rich();
                one.applyAsInt(x);
                return x;
            }, Checks::rich, true);
        }
    }

    public static void main(String[] args) throws Exception {
        runSentences(DocumentTest.class);
        finish();
    }
}
