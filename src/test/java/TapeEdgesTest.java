/** Promises 1 to 5, and what Terms 3 says of the tape: one test for each sentence with an edge. */
public final class TapeEdgesTest extends Checks {
    private static final String BLANKS = " ".repeat(400);

    private static String wide(String text, int length) {
        return text + BLANKS.substring(0, length - text.length());
    }

    // ---- promise 1

    @Sentence(promise = 1, says = "A MATRIX has ROWS, 1 to 6 (2 at first), and COLUMNS, 1 to 6 (2)")
    static void newSize() {
        RowPivots x = new RowPivots();
        due("ROWS", x.count(0), 2);
        due("COLUMNS", x.count(1), 2);
        due("no ROW 2", x.entry(2, 0, false), UNKNOWN);
        due("no column 3", x.entry(0, 3, false), UNKNOWN);
    }

    @Sentence(promise = 1, says = "ENTRIES are fractions, 0 at first")
    static void newEntries() {
        RowPivots x = new RowPivots();
        for (int row = 0; row < 2; row++) {
            for (int column = 0; column <= 2; column++) {
                entryIs(x, row, column, 0, 1);
            }
        }
        due("none is not 0", x.count(2), 0);
    }

    @Sentence(promise = {1, 28, 29}, says = "The MATRIX as at first; no images.")
    static void newObjectIsEmpty() {
        RowPivots x = new RowPivots();
        for (int k = 0; k < 3; k++) {
            due("again(" + k + ")", x.again(k), false);
        }
        due("nothing can be UNDONE", x.count(3), 0);
        due("undo()", x.undo(), NONE);
        due("the tape", x.count(4), 0);
        due("no FAULT", x.fault(0), 0);
        due("no place", x.fault(1), NONE);
        whyIs(x, 0, 0, 0);
    }

    @Sentence(promise = 1, says = "The MATRIX as at first; no images.")
    static void objectsShareNothing() {
        RowPivots x = rich();
        RowPivots y = new RowPivots();
        x.set(0, 0, 1, 1);
        due("ROWS", y.count(0), 2);
        due("not 0", y.count(2), 0);
        due("tape", y.count(4), 0);
        due("again(0)", y.again(0), false);
    }

    // ---- promise 2

    @Sentence(promise = 2, says = "twenty bytes come behind it, of each number the highest first")
    static void bytesInOrder() {
        RowPivots x = new RowPivots();
        due("feed", x.feed(0x73697a65, 0x20322031, 0x3b736574, 0x20312031, 0x20352f37), 20);
        due("feed", x.feed(0x3b202020, 0x20202020, 0x20202020, 0x20202020, 0x20202020), 40);
        due("text()", x.text(), 1);
        entryIs(x, 1, 1, 5, 7);
    }

    @Sentence(promise = 2, says = "twenty bytes come behind it, of each number the highest first")
    static void everyByteIsAByte() {
        for (int place = 0; place < 20; place++) {
            for (int sign : new int[] {0, 33, 127, 128, 255}) {
                int[] five = {0x20202020, 0x20202020, 0x20202020, 0x20202020, 0x20202020};
                int shift = 24 - place % 4 * 8;
                five[place / 4] = 0x20202020 & ~(255 << shift) | sign << shift;
                RowPivots x = new RowPivots();
                due("feed", x.feed(five[0], five[1], five[2], five[3], five[4]), 20);
                due("text()", x.text(), NONE);
                due("fault(0) of " + sign, x.fault(0), 1);
                due("fault(1) of " + sign, x.fault(1), place);
            }
        }
    }

    @Sentence(promise = 2, says = "THE TAPE has at most 400 bytes.")
    static void fullTape() {
        RowPivots x = new RowPivots();
        for (int k = 1; k <= 20; k++) {
            due("feed", x.feed(SMALL, LARGE, 0, -1, k), 20 * k);
            due("count(4)", x.count(4), 20 * k);
        }
        due("feed a full tape", x.feed(1, 2, 3, 4, 5), NONE);
        due("count(4)", x.count(4), 400);
        due("once more", x.feed(1, 2, 3, 4, 5), NONE);
    }

    @Sentence(promise = 2, says = "NONE, and nothing comes, if there would be more than 400.")
    static void lastThatComes() {
        RowPivots x = new RowPivots();
        put(x, wide("size 1 3;set 0 3 4;", 380));
        due("at 380", x.feed(0x20202020, 0x20202020, 0x20202020, 0x20202020, 0x2020203b), 400);
        due("text()", x.text(), NONE);
        due("the 400th byte came", x.fault(1), 399);
    }

    @Sentence(promise = 2, says = "NONE, and nothing comes, if there would be more than 400.")
    static void firstThatDoesNotCome() {
        for (int length = 381; length <= 400; length++) {
            RowPivots x = new RowPivots();
            put(x, wide("size 1 3;set 0 3 4;", length));
            due("at " + length, x.feed(-1, -1, -1, -1, -1), NONE);
            due("count(4)", x.count(4), length);
            due("text(), nothing came", x.text(), 1);
            due("SIDE", x.entry(0, 3, false), 4);
        }
    }

    @Sentence(promise = 2, says = "NONE, and nothing comes, if there would be more than 400.")
    static void feedRefusedLeavesAll() {
        same("feed of a full tape", () -> {
            RowPivots x = fullRich();
            due("feed", x.feed(-1, -1, -1, -1, -1), NONE);
            return x;
        }, TapeEdgesTest::fullRich, true);
    }

    private static RowPivots fullRich() {
        RowPivots x = rich();
        put(x, BLANKS.substring(0, 390 - x.count(4)));
        return x;
    }

    // ---- promise 3

    @Sentence(promise = 3, says = "The tape has its first n bytes alone: n.")
    static void endCuts() {
        RowPivots x = new RowPivots();
        put(x, "size 1 2;set 0 2 8;$$$$$$$$");
        due("all of it", x.end(27), 27);
        due("count(4)", x.count(4), 27);
        due("end(19)", x.end(19), 19);
        due("the others are gone", x.end(20), NONE);
        put(x, "set 0 0 3;");
        due("what is fed comes behind them", x.text(), 2);
        due("entry", x.entry(0, 2, false), 8);
        due("entry", x.entry(0, 0, false), 3);
    }

    @Sentence(promise = 3, says = "The tape has its first n bytes alone: n.")
    static void endOfNoBytes() {
        RowPivots x = new RowPivots();
        due("end(0) of an empty tape", x.end(0), 0);
        put(x, "size 1 1;");
        due("end(0)", x.end(0), 0);
        due("count(4)", x.count(4), 0);
        due("text()", x.text(), NONE);
        due("place", x.fault(1), 0);
    }

    @Sentence(promise = 3, says = "NONE if it has not so many, or n is below 0.")
    static void endRefused() {
        RowPivots x = new RowPivots();
        due("end(1) of an empty tape", x.end(1), NONE);
        int length = rich().count(4);
        for (int n : new int[] {-1, SMALL, length + 1, 400, 401, LARGE}) {
            leavesAll("end(" + n + ")", r -> r.end(n), NONE);
        }
        due("end(" + length + ")", rich().end(length), length);
    }

    @Sentence(promise = 3, says = "NONE if it has not so many, or n is below 0.")
    static void endOfAFullTape() {
        RowPivots x = new RowPivots();
        put(x, wide("size 2 2;", 400));
        due("end(401)", x.end(401), NONE);
        due("end(400)", x.end(400), 400);
        due("end(399)", x.end(399), 399);
        due("end(400)", x.end(400), NONE);
    }

    // ---- promise 4

    @Sentence(promise = 4, says = "The tape is taken (and is empty then) as a TEXT")
    static void tapeIsEmptyThen() {
        RowPivots x = new RowPivots();
        put(x, "size 1 1;");
        due("text()", x.text(), 0);
        due("empty", x.count(4), 0);
        put(x, "size 1 1;!");
        due("text()", x.text(), NONE);
        due("empty behind a FAULT, too", x.count(4), 0);
        due("text() of no bytes", x.text(), NONE);
        due("fault(0)", x.fault(0), 1);
        due("the end's place", x.fault(1), 0);
    }

    @Sentence(promise = 4, says = "the MATRIX is as told (nothing can be UNDONE): how many LINES.")
    static void nothingCanBeUndone() {
        RowPivots x = rich();
        due("before", x.count(3) > 0, true);
        due("text()", x.text(), 2);
        due("count(3)", x.count(3), 0);
        due("undo()", x.undo(), NONE);
        x = of("size 2 1;set 0 0 1;swap 0 1;scale 1 2;add 0 1 1;reduce 0;");
        due("nor ACTS of a TEXT", x.count(3), 0);
        due("undo()", x.undo(), NONE);
        due("set", x.set(0, 1, 9, 1), 0);
        due("then one can", x.undo(), 0);
        due("to what was told", x.entry(0, 0, false), 2);
    }

    @Sentence(promise = 4, says = "the MATRIX is as told (nothing can be UNDONE): how many LINES.")
    static void howManyLines() {
        taken("size 1 1;", 0);
        taken("size 1 1;set 0 0 1;", 1);
        StringBuilder full = new StringBuilder("size 1 1;");
        for (int k = 0; k < 43; k++) {
            full.append("set0 0 ").append(k % 10).append(';');
        }
        RowPivots x = new RowPivots();
        put(x, wide(full.toString(), 396) + "    ");
        due("a full tape", x.count(4), 400);
        due("its LINES", x.text(), 43);
        due("the last one", x.entry(0, 0, false), 2);
    }

    @Sentence(promise = 4, says = "the MATRIX is as told (nothing can be UNDONE): how many LINES.")
    static void whatWasNotToldIsZero() {
        RowPivots x = of("size 6 6;row 5 1 2 3 4 5 6 7;set 0 6 8;");
        put(x, "size 1 1;");
        due("text()", x.text(), 0);
        due("entry", x.entry(0, 0, false), 0);
        due("no ROW 1", x.entry(1, 0, false), UNKNOWN);
        put(x, "size 6 6;");
        due("text()", x.text(), 0);
        due("all 0", x.count(2), 0);
        due("and SIDES", x.pattern(6, true), 0);
        entryIs(x, 5, 6, 0, 1);
        put(x, "size 2 2;row 0 1/2 3/4 5/6;row 1 7/8 9/10 11/12;");
        due("text()", x.text(), 2);
        put(x, "size 2 2;set 0 1 5/7;");
        due("text()", x.text(), 1);
        entryIs(x, 0, 0, 0, 1);
        entryIs(x, 0, 1, 5, 7);
        entryIs(x, 1, 2, 0, 1);
    }

    @Sentence(promise = 4, says = "NONE: a FAULT (all else stays).")
    static void faultLeavesAll() {
        String[] texts = {"", "size", "size 1 1;row 0 5 5;swap 0 0;", "size 6 6;set 5 5 1;x",
            "size 2 2;set 0 0 1;reduce 3;", "size 7 1;"};
        for (String text : texts) {
            RowPivots a = rich();
            String was = matrixOf(a);
            a.end(0);
            put(a, text);
            due("text() of '" + text + "'", a.text(), NONE);
            sameText("text() of '" + text + "'", matrixOf(a), was);
            whyIs(a, 3, 2, 0);
            sameText("text() of '" + text + "'", undoneOf(() -> faulted(text)), undoneOf(Checks::rich));
            sameText("text() of '" + text + "'", imagesOf(() -> faulted(text)), imagesOf(Checks::rich));
        }
    }

    private static RowPivots faulted(String text) {
        RowPivots x = rich();
        x.end(0);
        put(x, text);
        x.text();
        return x;
    }

    @Sentence(promise = {4, 11}, says = "Why the latest ACT (of the calls above) was REFUSED")
    static void textLeavesWhy() {
        RowPivots x = rich();
        due("text()", x.text(), 2);
        whyIs(x, 3, 2, 0);
        put(x, "size 1 1;swap 0 0;");
        due("text()", x.text(), NONE);
        whyIs(x, 3, 2, 0);
        x = new RowPivots();
        put(x, "size 1 1;swap 0 0;");
        x.text();
        whyIs(x, 0, 0, 0);
    }

    @Sentence(promise = 4, says = "A TEXT: 'size' N N ';' {LINE ';'}, N: ROWS, COLUMNS.")
    static void rowsThenColumns() {
        RowPivots x = of("size 2 5;");
        due("ROWS", x.count(0), 2);
        due("COLUMNS", x.count(1), 5);
        faulty("size;", 1, 4);
        faulty("size 2;", 1, 6);
        faulty("size 2 2 2;", 1, 9);
        faulty("size 2 2 set 0 0 1;", 1, 9);
        faulty("size 2 2;set 0 0 1", 1, 18);
        faulty("set 0 0 1;", 1, 0);
        faulty(";size 2 2;", 1, 0);
        faulty("2 2;", 1, 0);
    }

    @Sentence(promise = 4, says = "(ROW, as many F as COLUMNS and 1)")
    static void asManyFractions() {
        taken("size 1 1;row 0 1 2;", 1);
        faulty("size 1 1;row 0 1;", 1, 16);
        faulty("size 1 1;row 0;", 1, 14);
        faulty("size 1 1;row 0 1 2 3;", 1, 19);
        taken("size 1 6;row 0 1 2 3 4 5 6 7;", 1);
        faulty("size 1 6;row 0 1 2 3 4 5 6;", 1, 26);
        faulty("size 1 6;row 0 1 2 3 4 5 6 7 8;", 1, 29);
        RowPivots x = of("size 6 6;row 5 -1 2/3 3 4 5 6 -7/8;");
        entryIs(x, 5, 0, -1, 1);
        entryIs(x, 5, 1, 2, 3);
        entryIs(x, 5, 5, 6, 1);
        entryIs(x, 5, 6, -7, 8);
    }

    @Sentence(promise = 4, says = "'add' N N F (to the first, F times the second)")
    static void toTheFirst() {
        RowPivots x = of("size 2 1;row 0 1 2;row 1 10 20;add 0 1 3;");
        entryIs(x, 0, 0, 31, 1);
        entryIs(x, 0, 1, 62, 1);
        entryIs(x, 1, 0, 10, 1);
    }

    @Sentence(promise = 4,
        says = "('row', 'set' tell ENTRIES, also such as are so already; the others are ACTS)")
    static void toldAsTheyAre() {
        taken("size 2 2;set 0 0 0;", 1);
        taken("size 2 2;row 0 0 0 0;row 0 0 0 0;", 2);
        taken("size 2 2;set 0 0 1/2;set 0 0 2/4;set 0 0 -0;set 0 0 0/99;", 4);
        taken("size 2 2;row 0 1 2 3;row 1 1 2 3;row 1 1 2 3;", 3);
        RowPivots x = of("size 1 1;set 0 0 5;set 0 0 7;row 0 8 9;set 0 1 3;");
        entryIs(x, 0, 0, 8, 1);
        entryIs(x, 0, 1, 3, 1);
    }

    @Sentence(promise = 4, says = "LINES are done one by one")
    static void oneByOne() {
        RowPivots x = of("size 2 1;set 0 0 2;scale 0 3;swap 0 1;set 0 0 1;scale 0 5;add 1 0 1;");
        entryIs(x, 0, 0, 5, 1);
        entryIs(x, 1, 0, 11, 1);
        faulty("size 2 1;scale 0 3;set 0 0 2;", 3, 9);
    }

    // ---- tokens

    @Sentence(promise = {4, 5}, says = "TOKENS, as long as they go, blanks (32, 10) between")
    static void asLongAsTheyGo() {
        faulty("sizesize 2 2;", 1, 0);
        faulty("si ze 2 2;", 1, 0);
        faulty("size 2 2;setrow 0 0 1;", 1, 9);
        faulty("size 2 2;swa p 0 1;", 1, 9);
        faulty("size 22;", 2, 5);
        taken("size2 2;row0 1 2 3;row1-1-2-3;swap0 1;scale0-1/2;reduce1;", 5);
        faulty("size 2 2;set 00 1;", 1, 17);
    }

    @Sentence(promise = {4, 5}, says = "TOKENS, as long as they go, blanks (32, 10) between")
    static void blanks() {
        taken("\n \nsize\n2 \n 2\n;\n set 0\n0 - 1 / 2 ; \n", 1);
        taken(" size 1 1;", 0);
        taken("size 1 1;\n", 0);
        for (int sign = 0; sign < 256; sign++) {
            if (sign == 32 || sign == 10) {
                taken("size" + (char) sign + "2 2;", 0);
            } else if (sign < '0' || sign > '9') {
                boolean isLetter = sign >= 'a' && sign <= 'z';
                faulty("size" + (char) sign + "2 2;", 1, isLetter ? 0 : 4);
            }
        }
    }

    @Sentence(promise = {4, 5}, says = "words, letters a to z")
    static void letters() {
        faulty("size 1 1;a", 1, 9);
        faulty("size 1 1;z", 1, 9);
        faulty("size 1 1; set` 0 0 1;", 1, 13);
        faulty("size 1 1; set{ 0 0 1;", 1, 13);
        faulty("size 1 1; seta 0 0 1;", 1, 10);
        faulty("size 1 1; setz 0 0 1;", 1, 10);
        faulty("size 1 1; se 0 0 1;", 1, 10);
        faulty("size 1 1; Set 0 0 1;", 1, 10);
        faulty("SIZE 1 1;", 1, 0);
        String[] words = {"row", "set", "swap", "scale", "add", "reduce"};
        for (String word : words) {
            faulty("size 1 1;" + word, 1, 9 + word.length());
            faulty("size 1 1;" + word + "s 0 0 0;", 1, 9);
            faulty("size 1 1;x" + word + " 0 0 0;", 1, 9);
            faulty("size 1 1;" + word.substring(1) + " 0 0 0;", 1, 9);
            String last = word.substring(0, word.length() - 1);
            faulty("size 1 1;" + last + "x 0 0 0;", 1, 9);
            faulty("size 1 1;" + last + " 0 0 0;", 1, 9);
            for (int at = 0; at < word.length(); at++) {
                String other = word.substring(0, at) + "q" + word.substring(at + 1);
                faulty("size 1 1;" + other + " 0 0 0;", 1, 9);
            }
        }
        for (String other : new String[] {"qize", "sqze", "siqe", "sizq"}) {
            faulty(other + " 1 1;", 1, 0);
        }
    }

    @Sentence(promise = {4, 5}, says = "NUMBERS, 1 to 3 digits")
    static void digits() {
        taken("size 1 01;", 0);
        taken("size 006 001;", 0);
        faulty("size 0006 1;", 1, 5);
        faulty("size 1 0001;", 1, 7);
        RowPivots x = of("size 1 1;row 0 999 007/099;");
        entryIs(x, 0, 0, 999, 1);
        entryIs(x, 0, 1, 7, 99);
        faulty("size 1 1;row 0 1000 1;", 1, 15);
        faulty("size 1 1;row 0 0999 1;", 1, 15);
        faulty("size 1 1;row 0 -1000 1;", 1, 16);
        faulty("size 1 1;row 0 1/0001 1;", 1, 17);
        faulty("size 1 1;row 0000 1 1;", 1, 13);
        faulty("size 1 1;row 0 : 1;", 1, 15);
    }

    @Sentence(promise = {4, 5}, says = "(a longer row of digits is no token)")
    static void longerRowOfDigits() {
        faulty("size 1 1;reduce 4294967296;", 1, 16);
        faulty("size 18446744073709551617 1;", 1, 5);
        faulty("size 1 1;1234", 1, 9);
        faulty("size 1 1;set 0 0 1" + "0".repeat(370) + ";", 1, 17);
    }

    @Sentence(promise = {4, 5}, says = "the signs - / ; one byte each")
    static void signs() {
        taken("size 1 1;set 0 0-1/2;", 1);
        faulty("size 1 1;set 0 0 --1;", 1, 18);
        faulty("size 1 1;set 0 0 1//2;", 1, 19);
        faulty("size 1 1;;", 1, 9);
        faulty("size 1 1;-", 1, 9);
        faulty("size 1 1;/", 1, 9);
        faulty("size 1 1;set 0 0 +1;", 1, 17);
        faulty("size 1 1;set 0 0 .1;", 1, 17);
        faulty("size 1 1;set 0,0 1;", 1, 14);
    }

    @Sentence(promise = {4, 5}, says = "F: ['-'] N ['/' N].")
    static void fractions() {
        RowPivots x = of("size 1 6;row 0 -999 999/99 -1/99 0/5 -0 -0/7 - 6 / 4;");
        entryIs(x, 0, 0, -999, 1);
        entryIs(x, 0, 1, 111, 11);
        entryIs(x, 0, 2, -1, 99);
        entryIs(x, 0, 3, 0, 1);
        entryIs(x, 0, 4, 0, 1);
        entryIs(x, 0, 5, 0, 1);
        entryIs(x, 0, 6, -3, 2);
        faulty("size 1 1;set 0 0;", 1, 16);
        faulty("size 1 1;set 0 0 -;", 1, 18);
        faulty("size 1 1;set 0 0 /2;", 1, 17);
        faulty("size 1 1;set 0 0 1/;", 1, 19);
        faulty("size 1 1;set 0 0 1/-2;", 1, 19);
        faulty("size 1 1;set 0 0 1/2/3;", 1, 20);
        faulty("size 1 1;set 0 0 1-2;", 1, 18);
        faulty("size 1 1;set 0 0 x;", 1, 17);
    }

    // ---- promise 5

    @Sentence(promise = 5,
        says = "Of the latest text(), what 0: the FAULT, 0 without, 1: its place, NONE without.")
    static void latestText() {
        RowPivots x = new RowPivots();
        due("before any text()", x.fault(0), 0);
        due("before any text()", x.fault(1), NONE);
        put(x, "size 2 7;");
        x.text();
        due("fault(0)", x.fault(0), 2);
        due("fault(1)", x.fault(1), 7);
        put(x, "size 2 6;");
        due("other calls leave it", x.fault(0), 2);
        x.text();
        due("fault(0)", x.fault(0), 0);
        due("fault(1)", x.fault(1), NONE);
        x.text();
        due("fault(0)", x.fault(0), 1);
        due("fault(1)", x.fault(1), 0);
    }

    @Sentence(promise = 5, says = "NONE for another what.")
    static void anotherWhat() {
        for (int what : new int[] {-1, 2, 3, SMALL, LARGE}) {
            leavesAll("fault(" + what + ")", x -> x.fault(what), NONE);
        }
    }

    @Sentence(promise = 5, says = "FAULTS, with places (a token's first byte; the end's)")
    static void places() {
        faulty("", 1, 0);
        faulty("   ", 1, 3);
        faulty("  word", 1, 2);
        faulty("size", 1, 4);
        faulty("size \n ", 1, 7);
        faulty("size 2 2;set   12 0 1;", 2, 15);
        faulty(wide("size 2 2", 400), 1, 400);
        faulty(wide("size 2 2;", 399) + "!", 1, 399);
        faulty(wide("size 2 2;", 393) + "swap0 0", 1, 400);
        faulty(wide("size 2 2;", 392) + "swap0 0;", 3, 392);
    }

    @Sentence(promise = 5, says = "1 a byte or token with which no text goes on")
    static void noTextGoesOn() {
        faulty("size 2 2;size 2 2;", 1, 9);
        faulty("size size 2;", 1, 5);
        faulty("size 2 ; 2;", 1, 7);
        faulty("size -1 2;", 1, 5);
        faulty("size 1/1 2;", 1, 6);
        faulty("size 2 2;swap 0;", 1, 15);
        faulty("size 2 2;swap 0 1 1;", 1, 18);
        faulty("size 2 2;swap -1 0;", 1, 14);
        faulty("size 2 2;swap 0 1/2;", 1, 17);
        faulty("size 2 2;scale 0;", 1, 16);
        faulty("size 2 2;scale 0 2 2;", 1, 19);
        faulty("size 2 2;add 0 1;", 1, 16);
        faulty("size 2 2;add 0 1 2 2;", 1, 19);
        faulty("size 2 2;reduce;", 1, 15);
        faulty("size 2 2;reduce 0 0;", 1, 18);
        faulty("size 2 2;set 0 0 1 1;", 1, 19);
        faulty("size 2 2;row 0 1 2 3 row", 1, 21);
        faulty("size 2 2;\u0000", 1, 9);
    }

    @Sentence(promise = 5, says = "(at it: of size 1 to 6;")
    static void sizes() {
        for (int number = 0; number <= 999; number = number < 10 ? number + 1 : number * 3) {
            if (number >= 1 && number <= 6) {
                taken("size " + number + " 1;", 0);
                taken("size 1 " + number + ";", 0);
            } else {
                faulty("size " + number + " 1;", 2, 5);
                faulty("size 1 " + number + ";", 2, 7);
            }
        }
        taken("size 6 6;", 0);
        faulty("size 0 0;", 2, 5);
        faulty("size 999 999;", 2, 5);
    }

    @Sentence(promise = 5, says = "no such ROW, COLUMN, RULE;")
    static void noSuchNumber() {
        String told = "size 3 2;row 0 1 2 3;row 1 4 5 6;row 2 7 8 1;";
        int at = told.length();
        String[] lines = {"row # 1 1 1;", "set # 0 1;", "swap # 0;", "swap 0 #;", "scale # 2;",
            "add # 0 1;", "add 0 # 1;"};
        for (String line : lines) {
            int place = at + line.indexOf('#');
            taken(told + line.replace('#', '2'), 4);
            faulty(told + line.replace('#', '3'), 2, place);
            faulty(told + line.replace("#", "999"), 2, place);
        }
        taken(told + "set 0 2 1;", 4);
        faulty(told + "set 0 3 1;", 2, at + 6);
        taken(told + "reduce 0;", 4);
        taken(told + "reduce 2;", 4);
        faulty(told + "reduce 3;", 2, at + 7);
        taken("size 6 6;set 5 6 1;", 1);
        faulty("size 6 6;set 6 6 1;", 2, 13);
        faulty("size 6 6;set 5 7 1;", 2, 15);
        taken("size 1 1;set 0 1 1;", 1);
        faulty("size 1 1;set 1 1 1;", 2, 13);
        faulty("size 1 1;set 0 2 1;", 2, 15);
    }

    @Sentence(promise = 5, says = "the lower one of F 0, or above 99)")
    static void lowerOfF() {
        String[] lines = {"row 0 2 2/# 1;", "set 1 2 2/#;", "scale 0 2/#;", "add 0 1 2/#;"};
        for (String line : lines) {
            String told = "size 2 2;row 0 1 2 3;row 1 4 5 6;";
            int place = told.length() + line.indexOf('#');
            taken(told + line.replace("#", "1"), 3);
            taken(told + line.replace("#", "99"), 3);
            faulty(told + line.replace("#", "0"), 2, place);
            faulty(told + line.replace("#", "000"), 2, place);
            faulty(told + line.replace("#", "100"), 2, place);
            faulty(told + line.replace("#", "999"), 2, place);
            faulty(told + line.replace("#", "1000"), 1, place);
        }
    }

    @Sentence(promise = 5, says = "3 an ACT that is REFUSED (at its word, behind all of its LINE).")
    static void refusedBySameness() {
        String told = "size 3 2;row 0 1 2 3;row 1 1 2 3;";
        int at = told.length();
        String[] lines = {"swap 0 1", "swap 2 2", "scale 0 0", "scale 0 -0", "scale 0 7/7",
            "scale 2 5", "add 0 0 1", "add 0 1 0", "add 0 1 0/9", "add 0 2 1"};
        for (String line : lines) {
            faulty(told + line + ";", 3, at);
            faulty(told + " \n" + line + " ; set 0 0 1;", 3, at + 2);
        }
        faulty("size 2 2;reduce 0;", 3, 9);
        faulty("size 2 2;row 0 1 2 3;reduce 1;", 3, 21);
        faulty(told + "reduce 2;reduce 2;", 3, at + 9);
    }

    @Sentence(promise = 5, says = "3 an ACT that is REFUSED (at its word, behind all of its LINE).")
    static void refusedByLength() {
        String told = "size 2 1;set 0 0 100;scale 0 500;scale 0 500;scale 0 20;set 1 0 1;";
        int at = told.length();
        taken(told + "scale 0 2;", 6);
        taken(told + "scale 0 -2;", 6);
        faulty(told + "scale 0 3;", 3, at);
        taken(told + "add 1 0 1;", 6);
        taken(told + "scale 0 2;add 1 0 -1;", 7);
        faulty(told + "scale 0 2;add 1 0 1;", 3, at + 10);
        taken(told + "reduce 0;", 6);
        faulty(told + "scale 1 1/3;reduce 2;scale 1 2;", 3, at + 12);
        faulty(told + "scale 1 1/3;swap 0 1;reduce 0;", 3, at + 21);
    }

    @Sentence(promise = 5, says = "the first that is met")
    static void firstThatIsMet() {
        faulty("size 7 0;", 2, 5);
        faulty("size 7 x", 2, 5);
        faulty("size x 7", 1, 5);
        faulty("size 2 2;swap 0 0;!", 3, 9);
        faulty("size 2 2;swap 0 0;swap 2 0;", 3, 9);
        faulty("size 2 2;swap 2 0;swap 0 0;", 2, 14);
        faulty("size 2 2;scale 2 1/0;", 2, 15);
        faulty("size 2 2;add 0 0 1/0;", 2, 19);
        faulty("size 2 2;scale 0 1 ! ;", 1, 19);
        faulty("size 2 2;row 0 1/100 1000 1;", 2, 17);
        faulty("size 2 2;row 0 1000 1/100 1;", 1, 15);
    }

    @Sentence(promise = 5, says = "of one place the least")
    static void ofOnePlaceTheLeast() {
        faulty("size 2 2;swap 0 0", 1, 17);
        faulty("size 2 2;swap 0 0 ", 1, 18);
        faulty("size 2 2;swap 0 0 swap", 1, 18);
        faulty("size 2 2;swap 0 0 0", 1, 18);
        faulty("size 2 2;swap 0 0!", 1, 17);
        faulty("size 2 2;scale 0 1", 1, 18);
        faulty("size 2 2;scale 0 1/1", 1, 20);
        faulty("size 2 2;reduce 0", 1, 17);
        faulty("size 7777 2;", 1, 5);
    }

    public static void main(String[] args) throws Exception {
        runSentences(TapeEdgesTest.class, 1, 2, 3, 4, 5);
        finish();
    }
}
