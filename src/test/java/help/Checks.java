import java.lang.annotation.ElementType;
import java.lang.annotation.Retention;
import java.lang.annotation.RetentionPolicy;
import java.lang.annotation.Target;
import java.lang.reflect.InvocationTargetException;
import java.lang.reflect.Method;
import java.nio.file.Files;
import java.nio.file.Path;
import java.util.ArrayList;
import java.util.Arrays;
import java.util.Comparator;
import java.util.HashSet;
import java.util.List;
import java.util.Set;
import java.util.function.Supplier;
import java.util.function.ToIntFunction;

/**
 * What the tests share: answers held against what is due, texts put on the tape, MATRICES of any
 * fractions made by ACTS, and all that an object shows, so that a refused call can be seen to
 * leave it as it was. No object is asked more than 512 times.
 */
abstract class Checks {
    static final int NONE = RowPivots.NONE;
    static final int UNKNOWN = RowPivots.UNKNOWN;
    static final int LARGE = Integer.MAX_VALUE;
    static final int SMALL = Integer.MIN_VALUE;
    private static final int UNDOS = 20;
    private static String tested = "";
    private static int wrong = 0;

    /** A test of one sentence: the promises that rest on it, and its words in the document. */
    @Retention(RetentionPolicy.RUNTIME)
    @Target(ElementType.METHOD)
    @interface Sentence {
        int[] promise();
        String says();
    }

    static void name(String what) {
        tested = what;
    }

    static void due(String call, int got, int want) {
        if (got != want) {
            wrong++;
            System.out.println(tested + ": " + call + " answered " + got + ", due is " + want);
        }
    }

    static void due(String call, boolean got, boolean want) {
        due(call, got ? 1 : 0, want ? 1 : 0);
    }

    /** The two numbers of a fraction that an answer has. */
    static void ratio(String call, int upper, int lower, int wantUpper, int wantLower) {
        due(call + " upper", upper, wantUpper);
        due(call + " lower", lower, wantLower);
    }

    static void entryIs(RowPivots x, int row, int column, int upper, int lower) {
        ratio("entry(" + row + ", " + column + ")", x.entry(row, column, false),
            x.entry(row, column, true), upper, lower);
    }

    static void whyIs(RowPivots x, int reason, int row, int column) {
        boolean isLong = reason == 3;
        due("why(0, 0)", x.why(0, 0), reason);
        due("why(0, 1)", x.why(0, 1), reason == 0 ? 0 : NONE);
        due("why(0, 2)", x.why(0, 2), reason == 0 ? 0 : NONE);
        due("why(1, 0)", x.why(1, 0), isLong ? 4 : 0);
        due("why(1, 1)", x.why(1, 1), isLong ? row : 0);
        due("why(1, 2)", x.why(1, 2), isLong ? column : 0);
    }

    // ---- texts

    /** Puts bytes behind the tape, as many as the text has. */
    static void put(RowPivots x, String text) {
        int[] five = new int[5];
        int before = x.count(4);
        for (int at = 0; at < text.length(); at += 20) {
            for (int k = 0; k < 20; k++) {
                int sign = at + k < text.length() ? text.charAt(at + k) : ' ';
                five[k / 4] = five[k / 4] << 8 | sign;
            }
            x.feed(five[0], five[1], five[2], five[3], five[4]);
        }
        x.end(before + text.length());
    }

    static RowPivots of(String text) {
        RowPivots x = new RowPivots();
        put(x, text);
        if (x.text() == NONE) {
            wrong++;
            System.out.println(tested + ": FAULT " + x.fault(0) + " at " + x.fault(1) + ": " + text);
        }
        return x;
    }

    static void taken(String text, int lines) {
        RowPivots x = new RowPivots();
        put(x, text);
        due("text() of '" + text + "'", x.text(), lines);
        due("fault(0) of '" + text + "'", x.fault(0), 0);
        due("fault(1) of '" + text + "'", x.fault(1), NONE);
        due("the tape is empty", x.count(4), 0);
    }

    static void faulty(String text, int fault, int place) {
        RowPivots x = new RowPivots();
        x.set(1, 1, 7, 3);
        put(x, text);
        due("text() of '" + text + "'", x.text(), NONE);
        due("fault(0) of '" + text + "'", x.fault(0), fault);
        due("fault(1) of '" + text + "'", x.fault(1), place);
        due("the tape is empty", x.count(4), 0);
        due("the MATRIX stays", x.entry(1, 1, false), 7);
        due("what can be UNDONE stays", x.count(3), 1);
    }

    // ---- MATRICES

    /**
     * A MATRIX told by its ROWS, each with its SIDE. ENTRIES that can't be told are summed up in
     * the last ROW and added; the last ROW itself may have one of them, which SCALES make.
     */
    static RowPivots matrix(String... told) {
        int rows = told.length;
        int columns = told[0].split(" ").length - 1;
        RowPivots x = of("size " + rows + " " + columns + ";");
        for (int row = 0; row < rows; row++) {
            for (int column = 0; column <= columns; column++) {
                int[] f = fraction(told[row].split(" ")[column]);
                if (!canBeTold(f) && row < rows - 1) {
                    sumUp(x, row, column, f, rows - 1);
                } else if (!canBeTold(f)) {
                    scaleUp(x, row, column, f);
                }
            }
        }
        for (int row = 0; row < rows; row++) {
            for (int column = 0; column <= columns; column++) {
                int[] f = fraction(told[row].split(" ")[column]);
                if (canBeTold(f) && f[0] != 0) {
                    x.set(row, column, f[0], f[1]);
                }
                entryIs(x, row, column, f[0], f[1]);
            }
        }
        return x;
    }

    private static int[] fraction(String told) {
        String[] parts = told.split("/");
        return new int[] {Integer.parseInt(parts[0]),
            parts.length > 1 ? Integer.parseInt(parts[1]) : 1};
    }

    private static boolean canBeTold(int[] f) {
        return Math.abs(f[0]) <= 999 && f[1] <= 99;
    }

    private static void sumUp(RowPivots x, int row, int column, int[] f, int last) {
        int sign = f[0] < 0 ? -1 : 1;
        int rest = Math.abs(f[0]);
        for (int thousands = 0; rest != 0; thousands++) {
            if (rest % 1000 != 0) {
                x.set(last, column, sign * (rest % 1000), 1);
                for (int k = 0; k < thousands; k++) {
                    x.scale(last, 500, 1);
                    x.scale(last, 2, 1);
                }
                for (int factor : factors(f[1], 99)) {
                    x.scale(last, 1, factor);
                }
                x.add(row, last, 1, 1);
                x.set(last, column, 0, 1);
            }
            rest /= 1000;
        }
    }

    private static void scaleUp(RowPivots x, int row, int column, int[] f) {
        x.set(row, column, f[0] < 0 ? -1 : 1, 1);
        for (int factor : factors(Math.abs(f[0]), 999)) {
            x.scale(row, factor, 1);
        }
        for (int factor : factors(f[1], 99)) {
            x.scale(row, 1, factor);
        }
    }

    /** Factors that can be told, none above the most. */
    private static List<Integer> factors(int number, int most) {
        List<Integer> found = new ArrayList<>();
        int rest = number;
        int open = 1;
        for (int prime = 2; prime <= most && rest > 1; prime++) {
            while (rest % prime == 0) {
                rest /= prime;
                if (open * prime > most) {
                    found.add(open);
                    open = 1;
                }
                open *= prime;
            }
        }
        if (rest > 1) {
            throw new IllegalStateException("this test can't make " + number);
        }
        if (open > 1) {
            found.add(open);
        }
        return found;
    }

    // ---- all that an object shows

    /** An object with something of everything: ACTS to be UNDONE, a tape, a FAULT, WHY, images. */
    static RowPivots rich() {
        RowPivots x = of("size 3 3;row 0 1/2 2 0 3;row 1 4 -5/7 1 0;row 2 0 1 1 9;");
        put(x, "size 9");
        x.text();
        x.set(0, 0, 7, 3);
        x.scale(1, 2, 3);
        x.image(0);
        x.swap(0, 2);
        put(x, "size 1 2;row 0 1 2 3;");
        x.image(2);
        x.scale(2, 999, 1);
        x.scale(2, 999, 1);
        due("rich: LONG", x.scale(2, 999, 1), 3);
        put(x, "set 0 2 5/7;");
        return x;
    }

    static String matrixOf(RowPivots x) {
        StringBuilder all = new StringBuilder("MATRIX");
        for (int what = 0; what < 4; what++) {
            all.append(' ').append(x.count(what));
        }
        for (int row = 0; row < x.count(0); row++) {
            for (int column = 0; column <= x.count(1); column++) {
                all.append(column == 0 ? "; " : " ").append(x.entry(row, column, false))
                    .append('/').append(x.entry(row, column, true));
            }
        }
        return all.append('\n').toString();
    }

    private static String wordsOf(RowPivots x, boolean withWhy) {
        StringBuilder all = new StringBuilder("tape " + x.count(4) + " FAULT " + x.fault(0) + " at "
            + x.fault(1));
        for (int k = 0; k < 6 && withWhy; k++) {
            all.append(k == 0 ? " WHY " : " ").append(x.why(k / 3, k % 3));
        }
        return all.append('\n').toString();
    }

    /** What the bytes of the tape tell, which takes them. */
    private static String tapeOf(RowPivots x) {
        return "text() " + x.text() + " " + wordsOf(x, false) + matrixOf(x);
    }

    static String undoneOf(Supplier<RowPivots> made) {
        StringBuilder all = new StringBuilder();
        for (int depth = 1; depth <= UNDOS + 1; depth++) {
            RowPivots x = made.get();
            int left = 0;
            for (int k = 0; k < depth && left != NONE; k++) {
                left = x.undo();
            }
            all.append("undo ").append(left).append(' ').append(matrixOf(x));
        }
        return all.toString();
    }

    static String imagesOf(Supplier<RowPivots> made) {
        StringBuilder all = new StringBuilder();
        for (int k = 0; k < 3; k++) {
            RowPivots x = made.get();
            boolean isThere = x.again(k);
            all.append("image ").append(k).append(' ').append(isThere).append('\n')
                .append(isThere ? matrixOf(x) + wordsOf(x, true) + tapeOf(x) : "");
        }
        return all.toString();
    }

    static String seen(Supplier<RowPivots> made, boolean withWhy) {
        RowPivots x = made.get();
        return matrixOf(x) + wordsOf(x, withWhy) + tapeOf(x) + undoneOf(made) + imagesOf(made);
    }

    /** A call that is due an answer and leaves all as it was (but for WHY, if it is an ACT). */
    static void leavesAll(String call, Supplier<RowPivots> made, ToIntFunction<RowPivots> asked,
            int want, boolean isAct) {
        due(call, asked.applyAsInt(made.get()), want);
        same(call, () -> {
            RowPivots x = made.get();
            asked.applyAsInt(x);
            return x;
        }, made, !isAct);
    }

    static void leavesAll(String call, ToIntFunction<RowPivots> asked, int want) {
        leavesAll(call, Checks::rich, asked, want, false);
    }

    static void refused(String call, ToIntFunction<RowPivots> asked, int reason) {
        leavesAll(call, Checks::rich, asked, reason, true);
    }

    static void same(String call, Supplier<RowPivots> one, Supplier<RowPivots> other,
            boolean withWhy) {
        sameText(call, seen(one, withWhy), seen(other, withWhy));
    }

    static void sameText(String call, String got, String want) {
        if (got.equals(want)) {
            return;
        }
        wrong++;
        String[] now = got.split("\n");
        String[] was = want.split("\n");
        int k = 0;
        while (k < now.length - 1 && k < was.length - 1 && now[k].equals(was[k])) {
            k++;
        }
        System.out.println(tested + ": " + call + " does not leave all as it was: " + now[k]
            + ", due is " + was[k]);
    }

    // ---- runs

    /** Runs every test of a sentence that a class has; each of the promises must have one. */
    static void runSentences(Class<?> tests, int... promises) throws Exception {
        List<Method> found = new ArrayList<>();
        Set<Integer> seen = new HashSet<>();
        for (Method method : tests.getDeclaredMethods()) {
            Sentence sentence = method.getAnnotation(Sentence.class);
            if (sentence != null) {
                found.add(method);
                for (int promise : sentence.promise()) {
                    seen.add(promise);
                }
            }
        }
        found.sort(Comparator
            .comparingInt((Method m) -> m.getAnnotation(Sentence.class).promise()[0])
            .thenComparing(Method::getName));
        for (Method method : found) {
            run(method);
        }
        for (int promise : promises) {
            name("promise " + promise);
            due("a sentence is tested", seen.contains(promise), true);
        }
        System.out.println(found.size() + " sentences tested");
    }

    private static void run(Method method) throws Exception {
        Sentence sentence = method.getAnnotation(Sentence.class);
        name("promise " + Arrays.toString(sentence.promise()) + " \"" + sentence.says() + "\"");
        tellIfNotSaid(sentence.says());
        method.setAccessible(true);
        try {
            method.invoke(null);
        } catch (InvocationTargetException thrown) {
            wrong++;
            System.out.println(tested + " threw " + thrown.getCause());
        }
    }

    /** Only told, as a document that has other words since is no fault of the class. */
    private static void tellIfNotSaid(String words) throws Exception {
        Path document = Path.of("../shared/DOC.md");
        if (Files.exists(document) && !Files.readString(document).contains(words)) {
            System.out.println("note: the document does not say: " + words);
        }
    }

    static void finish() {
        System.out.println(wrong == 0 ? "all is as due" : wrong + " are not as due");
        if (wrong != 0) {
            System.exit(1);
        }
    }
}
