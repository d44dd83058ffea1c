import java.util.function.Supplier;

/** Promises 13 to 15, 28 and 29: one test for each sentence with an edge. */
public final class StateEdgesTest extends Checks {

    // ---- promise 13

    @Sentence(promise = 13,
        says = "An ENTRY (of the SIDE, too): its upper, or (lower) lower number.")
    static void entryOfTheSide() {
        RowPivots x = of("size 2 3;row 0 1 2 3 -4/6;row 1 5 6 7/9 0;");
        entryIs(x, 0, 3, -2, 3);
        entryIs(x, 1, 3, 0, 1);
        entryIs(x, 1, 2, 7, 9);
        entryIs(x, 0, 0, 1, 1);
        x = of("size 6 6;set 5 6 1/2;set 5 5 -1/3;");
        entryIs(x, 5, 6, 1, 2);
        entryIs(x, 5, 5, -1, 3);
        entryIs(matrix("1000000000 -1000000000", "0 0"), 0, 1, -1000000000, 1);
    }

    @Sentence(promise = 13, says = "UNKNOWN: there is none such.")
    static void entryNoneSuch() {
        int[][] none = {{-1, 0}, {3, 0}, {0, -1}, {0, 4}, {2, 4}, {3, 3}, {-1, 7}, {1, -1}, {SMALL, 0},
            {LARGE, 0}, {0, SMALL}, {0, LARGE}, {LARGE, LARGE}, {306783379, -7}};
        for (int[] a : none) {
            for (boolean lower : new boolean[] {false, true}) {
                leavesAll("entry(" + a[0] + ", " + a[1] + ")", x -> x.entry(a[0], a[1], lower),
                    UNKNOWN);
            }
        }
        RowPivots x = of("size 6 6;");
        due("ROW 6", x.entry(6, 0, true), UNKNOWN);
        due("column 7", x.entry(0, 7, true), UNKNOWN);
        x = of("size 1 1;");
        due("ROW 1", x.entry(1, 0, true), UNKNOWN);
        due("column 2", x.entry(0, 2, true), UNKNOWN);
    }

    // ---- promise 14

    @Sentence(promise = 14, says = "What 0: ROWS, 1: COLUMNS")
    static void rowsAndColumns() {
        for (int rows = 1; rows <= 6; rows++) {
            for (int columns = 1; columns <= 6; columns++) {
                RowPivots x = of("size " + rows + " " + columns + ";");
                due("ROWS", x.count(0), rows);
                due("COLUMNS", x.count(1), columns);
            }
        }
    }

    @Sentence(promise = 14, says = "2: ENTRIES that are not 0 (not of the SIDE)")
    static void entriesNotZero() {
        due("none", of("size 6 6;").count(2), 0);
        due("of SIDES none", of("size 2 2;set 0 2 1;set 1 2 1;").count(2), 0);
        due("one", of("size 2 2;set 1 1 -1/99;set 1 2 1;").count(2), 1);
        StringBuilder full = new StringBuilder("size 6 6;");
        for (int row = 0; row < 6; row++) {
            full.append("row ").append(row).append(" 1 -1 1/2 3 4 5 6;");
        }
        due("all", of(full.toString()).count(2), 36);
        due("of 1", of("size 1 1;row 0 3 3;").count(2), 1);
    }

    @Sentence(promise = 14, says = "3: ACTS that can be UNDONE")
    static void actsUndone() {
        RowPivots x = new RowPivots();
        due("none", x.count(3), 0);
        x.set(0, 0, 1, 1);
        due("one", x.count(3), 1);
        x.set(0, 0, 1, 1);
        due("a REFUSED one is none", x.count(3), 1);
        x.undo();
        due("none", x.count(3), 0);
        x.undo();
        due("none", x.count(3), 0);
        for (int k = 1; k <= 30; k++) {
            x.scale(0, 1, 1);
            x.set(1, 1, k, 1);
            due("at most 20", x.count(3), Math.min(20, k));
        }
    }

    @Sentence(promise = 14, says = "4: bytes on the tape")
    static void bytesOnTheTape() {
        RowPivots x = new RowPivots();
        due("none", x.count(4), 0);
        for (int k = 1; k <= 21; k++) {
            x.feed(0, 0, 0, 0, 0);
            due("at most 400", x.count(4), Math.min(400, 20 * k));
        }
        x.end(399);
        due("one less", x.count(4), 399);
        x.text();
        due("none", x.count(4), 0);
    }

    @Sentence(promise = 14, says = "NONE for another what.")
    static void anotherWhat() {
        for (int what : new int[] {-1, 6, 7, SMALL, LARGE}) {
            leavesAll("count(" + what + ")", x -> x.count(what), NONE);
        }
    }

    // ---- promise 15

    @Sentence(promise = 15,
        says = "ENTRIES that are not 0 of a ROW, or (column) of a COLUMN (the SIDE, too), as bits.")
    static void patterns() {
        RowPivots x = of("size 6 6;row 0 1 1 1 1 1 1 1;row 1 -1 0 0 0 0 0 0;row 5 0 0 0 0 0 1/2 -1/3;");
        due("all of a ROW", x.pattern(0, false), 127);
        due("its first", x.pattern(1, false), 1);
        due("none", x.pattern(2, false), 0);
        due("its last and the SIDE", x.pattern(5, false), 32 + 64);
        due("COLUMN 0", x.pattern(0, true), 3);
        due("COLUMN 1", x.pattern(1, true), 1);
        due("COLUMN 5", x.pattern(5, true), 1 + 32);
        due("the SIDE", x.pattern(6, true), 1 + 32);
        x = of("size 6 1;row 0 1 0;row 1 1 0;row 2 1 0;row 3 1 0;row 4 1 0;row 5 1 0;");
        due("all of a COLUMN", x.pattern(0, true), 63);
        due("none of the SIDE", x.pattern(1, true), 0);
    }

    @Sentence(promise = 15, says = "NONE: there is none such.")
    static void patternNoneSuch() {
        for (int k : new int[] {-1, 3, 4, 6, SMALL, LARGE}) {
            leavesAll("pattern(" + k + ", false)", x -> x.pattern(k, false), NONE);
        }
        for (int k : new int[] {-1, 4, 5, 7, SMALL, LARGE}) {
            leavesAll("pattern(" + k + ", true)", x -> x.pattern(k, true), NONE);
        }
        due("the last ROW", rich().pattern(2, false) != NONE, true);
        due("the SIDE", rich().pattern(3, true), 1 + 4);
        RowPivots x = of("size 6 6;");
        due("ROW 5", x.pattern(5, false), 0);
        due("ROW 6", x.pattern(6, false), NONE);
        due("the SIDE", x.pattern(6, true), 0);
        due("column 7", x.pattern(7, true), NONE);
        x = of("size 2 5;");
        due("ROW 2", x.pattern(2, false), NONE);
        due("COLUMN 2", x.pattern(2, true), 0);
        x = of("size 5 2;");
        due("ROW 4", x.pattern(4, false), 0);
        due("column 3", x.pattern(3, true), NONE);
    }

    // ---- promise 28

    @Sentence(promise = 28, says = "Image k (0 .. 2) is all that is")
    static void imageNumbers() {
        for (int k = 0; k < 3; k++) {
            RowPivots x = rich();
            due("image(" + k + ")", x.image(k), true);
            due("again(" + k + ")", x.again(k), true);
        }
        for (int k : new int[] {-1, 3, SMALL, LARGE}) {
            leavesAll("image(" + k + ")", x -> x.image(k) ? 1 : 0, 0);
        }
    }

    @Sentence(promise = 28, says = "(the tape, the FAULT, WHY, too, but for what can be UNDONE)")
    static void imageHasAll() {
        Supplier<RowPivots> brought = () -> {
            RowPivots x = rich();
            x.image(1);
            spoil(x);
            due("again(1)", x.again(1), true);
            return x;
        };
        Supplier<RowPivots> plain = () -> {
            RowPivots x = rich();
            x.image(1);
            return x;
        };
        RowPivots x = brought.get();
        due("nothing can be UNDONE", x.count(3), 0);
        due("FAULT", x.fault(0), 2);
        due("its place", x.fault(1), 5);
        whyIs(x, 3, 2, 0);
        sameText("the MATRIX", withoutUndone(x), withoutUndone(plain.get()));
        due("the tape", x.count(4), plain.get().count(4));
        due("its bytes", x.text(), 2);
        entryIs(x, 0, 2, 5, 7);
        sameText("the images", imagesOf(brought), imagesOf(plain));
    }

    private static void spoil(RowPivots x) {
        x.set(0, 0, 77, 1);
        x.reduce(7);
        x.end(0);
        put(x, "size 6 6;set 5 6 1;");
        x.text();
        put(x, "something else that is longer than the tape was at that time");
        x.set(1, 1, 5, 1);
        x.swap(0, 1);
    }

    private static String withoutUndone(RowPivots x) {
        String all = matrixOf(x);
        return all.substring(all.indexOf(';'));
    }

    @Sentence(promise = 28, says = "as it is now: true; false for another k.")
    static void imageIsAsItIsNow() {
        RowPivots x = new RowPivots();
        x.set(0, 0, 1, 1);
        due("image(0)", x.image(0), true);
        x.set(0, 0, 2, 1);
        due("image(1)", x.image(1), true);
        x.set(0, 0, 3, 1);
        x.again(0);
        entryIs(x, 0, 0, 1, 1);
        x.again(1);
        entryIs(x, 0, 0, 2, 1);
        due("image(0) anew", x.image(0), true);
        x.set(0, 0, 4, 1);
        x.again(0);
        entryIs(x, 0, 0, 2, 1);
        due("image 2 is none", x.again(2), false);
    }

    @Sentence(promise = 28, says = "but for what can be UNDONE")
    static void imageLeavesWhatCanBeUndone() {
        RowPivots x = rich();
        int before = x.count(3);
        x.image(1);
        due("count(3)", x.count(3), before);
        sameText("image(1)", undoneOf(() -> {
            RowPivots y = rich();
            y.image(1);
            return y;
        }), undoneOf(Checks::rich));
    }

    // ---- promise 29

    @Sentence(promise = 29,
        says = "All that is is as image k has it (nothing can be UNDONE then): true; false if "
            + "there is none such.")
    static void againNoneSuch() {
        for (int k : new int[] {-1, 1, 3, SMALL, LARGE}) {
            leavesAll("again(" + k + ")", x -> x.again(k) ? 1 : 0, 0);
        }
        due("again(0)", rich().again(0), true);
        due("again(2)", rich().again(2), true);
    }

    @Sentence(promise = 29, says = "(nothing can be UNDONE then)")
    static void nothingCanBeUndoneThen() {
        RowPivots x = rich();
        x.again(2);
        due("count(3)", x.count(3), 0);
        due("undo()", x.undo(), NONE);
        x.set(0, 0, 5, 1);
        due("one can", x.undo(), 0);
        due("none", x.undo(), NONE);
        x = new RowPivots();
        for (int k = 1; k <= 25; k++) {
            x.set(0, 0, k, 1);
        }
        x.image(0);
        x.again(0);
        due("none of 20", x.undo(), NONE);
        for (int k = 1; k <= 20; k++) {
            x.set(0, 1, k, 1);
        }
        for (int k = 19; k >= 0; k--) {
            due("undo()", x.undo(), k);
            entryIs(x, 0, 1, k, 1);
        }
        due("none", x.undo(), NONE);
    }

    @Sentence(promise = 29, says = "All that is is as image k has it")
    static void imagesOutlastAll() {
        RowPivots x = rich();
        x.again(2);
        x.again(0);
        x.text();
        due("again(2)", x.again(2), true);
        due("its tape", x.text(), 1);
        due("again(2) twice", x.again(2), true);
        due("its tape is there again", x.text(), 1);
        entryIs(x, 0, 2, 3, 1);
        due("COLUMNS", x.count(1), 2);
    }

    @Sentence(promise = 29, says = "All that is is as image k has it")
    static void againOfAnotherSize() {
        RowPivots x = of("size 6 6;set 5 6 7;set 5 5 3;");
        x.image(2);
        put(x, "size 1 1;set 0 0 9;");
        x.text();
        x.image(1);
        x.again(2);
        due("ROWS", x.count(0), 6);
        entryIs(x, 5, 6, 7, 1);
        entryIs(x, 0, 0, 0, 1);
        x.again(1);
        due("ROWS", x.count(0), 1);
        due("COLUMNS", x.count(1), 1);
        due("no ROW 5", x.entry(5, 6, false), UNKNOWN);
        entryIs(x, 0, 0, 9, 1);
    }

    public static void main(String[] args) throws Exception {
        runSentences(StateEdgesTest.class, 13, 14, 15, 28, 29);
        finish();
    }
}
