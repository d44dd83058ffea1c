import java.math.BigInteger;
import java.util.ArrayDeque;
import java.util.ArrayList;
import java.util.Arrays;
import java.util.Deque;
import java.util.List;
import java.util.Random;

/**
 * Long runs of drawn calls (always the same ones) on a RowPivots and on a plain model, written
 * from the document over BigInteger fractions and exceptions; every answer must be the same.
 */
public final class ModelTest {
    static final int NONE = -1;
    static final int UNKNOWN = -2000000000;
    static final BigInteger LONGEST = BigInteger.valueOf(1000000000L);

    static final class Unknown extends RuntimeException { }

    static final class Broken extends RuntimeException {
        final int row;
        final int column;
        Broken(int row, int column) {
            this.row = row;
            this.column = column;
        }
    }

    static final class Refused extends RuntimeException {
        final int reason;
        final int row;
        final int column;
        Refused(int reason, int row, int column) {
            this.reason = reason;
            this.row = row;
            this.column = column;
        }
    }

    static final class Fault extends RuntimeException {
        final int kind;
        final int place;
        Fault(int kind, int place) {
            this.kind = kind;
            this.place = place;
        }
    }

    record Frac(BigInteger up, BigInteger low) {
        static final Frac ZERO = of(0, 1);
        static final Frac ONE = of(1, 1);
        static Frac of(long up, long low) {
            return make(BigInteger.valueOf(up), BigInteger.valueOf(low));
        }
        static Frac make(BigInteger up, BigInteger low) {
            BigInteger shared = up.gcd(low);
            if (low.signum() < 0) {
                shared = shared.negate();
            }
            return new Frac(up.divide(shared), low.divide(shared));
        }
        Frac plus(Frac o) {
            return make(up.multiply(o.low).add(o.up.multiply(low)), low.multiply(o.low));
        }
        Frac times(Frac o) {
            return make(up.multiply(o.up), low.multiply(o.low));
        }
        Frac over(Frac o) {
            return make(up.multiply(o.low), low.multiply(o.up));
        }
        Frac negative() {
            return new Frac(up.negate(), low);
        }
        boolean isZero() {
            return up.signum() == 0;
        }
        boolean isLong() {
            return up.abs().compareTo(LONGEST) > 0 || low.compareTo(LONGEST) > 0;
        }
        Frac checked() {
            if (isLong()) {
                throw new Unknown();
            }
            return this;
        }
        int compareSize(Frac o) {
            return up.abs().multiply(o.low).compareTo(o.up.abs().multiply(low));
        }
        int answer(boolean lower) {
            return (lower ? low : up).intValueExact();
        }
    }

    static Frac[][] zeros(int rows, int columns) {
        Frac[][] m = new Frac[rows][columns + 1];
        for (Frac[] row : m) {
            Arrays.fill(row, Frac.ZERO);
        }
        return m;
    }

    static Frac[][] copy(Frac[][] m) {
        Frac[][] c = new Frac[m.length][];
        for (int i = 0; i < m.length; i++) {
            c[i] = m[i].clone();
        }
        return c;
    }

    static boolean isTold(int upper, int lower) {
        return upper >= -999 && upper <= 999 && lower >= 1 && lower <= 99;
    }

    record Pivot(int row, int column, int fill, int weight, Frac value) { }

    /** ELIMINATION: throws Broken where it is so. */
    static final class Elim {
        final Frac[][] m;
        final int columns;
        final List<Integer> rows = new ArrayList<>();
        final List<Integer> cols = new ArrayList<>();
        final List<Pivot> pivots = new ArrayList<>();

        Elim(Frac[][] from, int rule) {
            m = copy(from);
            columns = m[0].length - 1;
            for (int i = 0; i < m.length; i++) {
                rows.add(i);
            }
            for (int j = 0; j < columns; j++) {
                cols.add(j);
            }
            for (int[] best = best(rule); best != null; best = best(rule)) {
                take(best[0], best[1]);
            }
        }

        int weight(int r, int c) {
            long inRow = cols.stream().filter(j -> !m[r][j].isZero()).count();
            long inColumn = rows.stream().filter(i -> !m[i][c].isZero()).count();
            return (int) ((inRow - 1) * (inColumn - 1));
        }

        int[] best(int rule) {
            List<int[]> found = new ArrayList<>();
            for (int r : rows) {
                for (int c : cols) {
                    if (!m[r][c].isZero()) {
                        found.add(new int[] {r, c});
                    }
                }
            }
            found.sort((a, b) -> {
                int first = 0;
                if (rule == 0) {
                    first = Integer.compare(a[1], b[1]);
                } else if (rule == 1) {
                    first = Integer.compare(weight(a[0], a[1]), weight(b[0], b[1]));
                } else {
                    first = m[b[0]][b[1]].compareSize(m[a[0]][a[1]]);
                }
                int second = Integer.compare(a[0], b[0]);
                return first != 0 ? first : second != 0 ? second : Integer.compare(a[1], b[1]);
            });
            return found.isEmpty() ? null : found.get(0);
        }

        void take(int pr, int pc) {
            int weight = weight(pr, pc);
            int fill = 0;
            Frac pivot = m[pr][pc];
            for (int r : rows) {
                if (r == pr || m[r][pc].isZero()) {
                    continue;
                }
                Frac factor = m[r][pc].over(pivot).negative();
                if (factor.isLong()) {
                    throw new Broken(r, pc);
                }
                for (int c = 0; c <= columns; c++) {
                    Frac added = factor.times(m[pr][c]);
                    Frac comes = added.plus(m[r][c]);
                    if (added.isLong() || comes.isLong()) {
                        throw new Broken(r, c);
                    }
                    if (c < columns && m[r][c].isZero() && !comes.isZero()) {
                        fill++;
                    }
                    m[r][c] = comes;
                }
            }
            rows.remove((Integer) pr);
            cols.remove((Integer) pc);
            pivots.add(new Pivot(pr, pc, fill, weight, pivot));
        }

        int fill() {
            return pivots.stream().mapToInt(Pivot::fill).sum();
        }

        int kind() {
            for (int r : rows) {
                if (!m[r][columns].isZero()) {
                    return 0;
                }
            }
            return pivots.size() == columns ? 1 : 2;
        }

        /** free NONE: the SOLUTION; null stands for what is UNKNOWN. */
        Frac[] solve(int free) {
            Frac[] x = new Frac[columns];
            Arrays.fill(x, Frac.ZERO);
            if (free != NONE) {
                x[free] = Frac.ONE;
            }
            for (int k = pivots.size() - 1; k >= 0; k--) {
                Pivot p = pivots.get(k);
                try {
                    Frac v = free == NONE ? m[p.row][columns] : Frac.ZERO;
                    for (int c = 0; c < columns; c++) {
                        if (c != p.column) {
                            v = v.plus(product(m[p.row][c], x[c]).negative()).checked();
                        }
                    }
                    x[p.column] = v.over(p.value).checked();
                } catch (Unknown u) {
                    x[p.column] = null;
                }
            }
            return x;
        }

        /** An ENTRY of 0 brings 0, whatever its COLUMN has or has not. */
        static Frac product(Frac entry, Frac has) {
            if (entry.isZero()) {
                return Frac.ZERO;
            }
            if (has == null) {
                throw new Unknown();
            }
            return entry.times(has).checked();
        }

        Frac determinant() {
            if (pivots.size() < m.length) {
                return Frac.ZERO;
            }
            Frac product = Frac.ONE;
            int[] order = new int[columns];
            for (Pivot p : pivots) {
                product = product.times(p.value).checked();
                order[p.column] = p.row;
            }
            for (int i = 0; i < columns; i++) {
                for (int j = i + 1; j < columns; j++) {
                    if (order[i] > order[j]) {
                        product = product.negative();
                    }
                }
            }
            return product;
        }
    }

    static final class Kept {
        Frac[][] m = zeros(2, 2);
        List<Integer> tape = new ArrayList<>();
        int fault = 0;
        int place = NONE;
        int[] why = {0, NONE, NONE};

        Kept twin() {
            Kept k = new Kept();
            k.m = copy(m);
            k.tape = new ArrayList<>(tape);
            k.fault = fault;
            k.place = place;
            k.why = why.clone();
            return k;
        }
    }

    /** An ACT on a matrix: its new form, or Refused. */
    static Frac[][] act(Frac[][] m, String name, int... a) {
        int rows = m.length;
        int columns = m[0].length - 1;
        Frac[][] n = copy(m);
        boolean one = a[0] >= 0 && a[0] < rows;
        switch (name) {
            case "set" -> {
                refuseIf(!one || a[1] < 0 || a[1] > columns || !isTold(a[2], a[3]), 1);
                n[a[0]][a[1]] = Frac.of(a[2], a[3]);
            }
            case "swap" -> {
                refuseIf(!one || a[1] < 0 || a[1] >= rows, 1);
                n[a[0]] = m[a[1]].clone();
                n[a[1]] = m[a[0]].clone();
            }
            case "scale" -> {
                refuseIf(!one || !isTold(a[1], a[2]), 1);
                refuseIf(a[1] == 0, 2);
                for (int c = 0; c <= columns; c++) {
                    n[a[0]][c] = m[a[0]][c].times(Frac.of(a[1], a[2]));
                    refuseLong(n[a[0]][c], a[0], c);
                }
            }
            case "add" -> {
                refuseIf(!one || a[1] < 0 || a[1] >= rows || !isTold(a[2], a[3]), 1);
                refuseIf(a[0] == a[1], 2);
                for (int c = 0; c <= columns; c++) {
                    Frac added = m[a[1]][c].times(Frac.of(a[2], a[3]));
                    n[a[0]][c] = m[a[0]][c].plus(added);
                    refuseLong(added, a[0], c);
                    refuseLong(n[a[0]][c], a[0], c);
                }
            }
            default -> {
                refuseIf(a[0] < 0 || a[0] > 2, 1);
                try {
                    n = new Elim(m, a[0]).m;
                } catch (Broken b) {
                    throw new Refused(3, b.row, b.column);
                }
            }
        }
        refuseIf(Arrays.deepEquals(m, n), 2);
        return n;
    }

    static void refuseIf(boolean so, int reason) {
        if (so) {
            throw new Refused(reason, NONE, NONE);
        }
    }

    static void refuseLong(Frac f, int row, int column) {
        if (f.isLong()) {
            throw new Refused(3, row, column);
        }
    }

    /** A token: kind 'w', 'n', a sign, '?' (no token) or '$' (the end). */
    record Token(char kind, String text, int place) { }

    static final class Parse {
        final List<Token> tokens = new ArrayList<>();
        int at = 0;
        Frac[][] m;
        int lines = 0;

        Parse(List<Integer> tape) {
            StringBuilder all = new StringBuilder();
            for (int b : tape) {
                all.append((char) b);
            }
            java.util.regex.Matcher t = java.util.regex.Pattern
                .compile("[ \n]+|([a-z]+)|([0-9]+)|([-/;])|(?s:.)").matcher(all);
            while (t.find()) {
                String s = t.group();
                if (t.group(1) != null) {
                    tokens.add(new Token('w', s, t.start()));
                } else if (t.group(2) != null) {
                    tokens.add(new Token(s.length() > 3 ? '?' : 'n', s, t.start()));
                } else if (t.group(3) != null) {
                    tokens.add(new Token(s.charAt(0), s, t.start()));
                } else if (!s.isBlank() || s.charAt(0) != ' ' && s.charAt(0) != '\n') {
                    tokens.add(new Token('?', s, t.start()));
                }
            }
            tokens.add(new Token('$', "", tape.size()));
            run();
        }

        Token take(String kinds) {
            Token t = tokens.get(at);
            if (kinds.indexOf(t.kind) < 0) {
                throw new Fault(1, t.place);
            }
            at++;
            return t;
        }

        int number(int least, int most) {
            Token t = take("n");
            int v = Integer.parseInt(t.text);
            if (v < least || v > most) {
                throw new Fault(2, t.place);
            }
            return v;
        }

        int[] fraction() {
            int sign = 1;
            if (tokens.get(at).kind == '-') {
                at++;
                sign = -1;
            }
            int up = sign * number(0, 999);
            if (tokens.get(at).kind != '/') {
                return new int[] {up, 1};
            }
            at++;
            return new int[] {up, number(1, 99)};
        }

        void run() {
            Token size = take("w");
            if (!size.text.equals("size")) {
                throw new Fault(1, size.place);
            }
            int rows = number(1, 6);
            int columns = number(1, 6);
            take(";");
            m = zeros(rows, columns);
            while (tokens.get(at).kind != '$') {
                line(rows, columns);
                lines++;
            }
        }

        void line(int rows, int columns) {
            Token word = take("w");
            int[] a;
            switch (word.text) {
                case "row" -> {
                    int r = number(0, rows - 1);
                    for (int c = 0; c <= columns; c++) {
                        int[] f = fraction();
                        m[r][c] = Frac.of(f[0], f[1]);
                    }
                    take(";");
                    return;
                }
                case "set" -> {
                    int r = number(0, rows - 1);
                    int c = number(0, columns);
                    int[] f = fraction();
                    m[r][c] = Frac.of(f[0], f[1]);
                    take(";");
                    return;
                }
                case "swap" -> a = new int[] {number(0, rows - 1), number(0, rows - 1)};
                case "scale" -> {
                    int r = number(0, rows - 1);
                    int[] f = fraction();
                    a = new int[] {r, f[0], f[1]};
                }
                case "add" -> {
                    int r = number(0, rows - 1);
                    int of = number(0, rows - 1);
                    int[] f = fraction();
                    a = new int[] {r, of, f[0], f[1]};
                }
                case "reduce" -> a = new int[] {number(0, 2)};
                default -> throw new Fault(1, word.place);
            }
            take(";");
            try {
                m = act(m, word.text, a);
            } catch (Refused r) {
                throw new Fault(3, word.place);
            }
        }
    }

    static final class Model {
        Kept now = new Kept();
        final Kept[] images = new Kept[3];
        final Deque<Frac[][]> past = new ArrayDeque<>();

        int rows() {
            return now.m.length;
        }

        int columns() {
            return now.m[0].length - 1;
        }

        boolean row(int r) {
            return r >= 0 && r < rows();
        }

        boolean column(int c) {
            return c >= 0 && c < columns();
        }

        int feed(int... five) {
            if (now.tape.size() + 20 > 400) {
                return NONE;
            }
            for (int v : five) {
                for (byte b : java.nio.ByteBuffer.allocate(4).putInt(v).array()) {
                    now.tape.add(b & 255);
                }
            }
            return now.tape.size();
        }

        int end(int n) {
            if (n < 0 || n > now.tape.size()) {
                return NONE;
            }
            now.tape = new ArrayList<>(now.tape.subList(0, n));
            return n;
        }

        int text() {
            List<Integer> tape = now.tape;
            now.tape = new ArrayList<>();
            try {
                Parse p = new Parse(tape);
                now.m = p.m;
                now.fault = 0;
                now.place = NONE;
                past.clear();
                return p.lines;
            } catch (Fault f) {
                now.fault = f.kind;
                now.place = f.place;
                return NONE;
            }
        }

        int doAct(String name, int... a) {
            try {
                Frac[][] next = act(now.m, name, a);
                past.push(now.m);
                if (past.size() > 20) {
                    past.removeLast();
                }
                now.m = next;
                now.why = new int[] {0, NONE, NONE};
                return 0;
            } catch (Refused r) {
                now.why = new int[] {r.reason, r.row, r.column};
                return r.reason;
            }
        }

        int why(int level, int what) {
            if (level < 0 || level > 1 || what < 0 || what > 2) {
                return NONE;
            }
            int[][] levels = now.why[0] == 0 ? new int[][] {}
                : now.why[0] < 3 ? new int[][] {{now.why[0], NONE, NONE}}
                : new int[][] {{3, NONE, NONE}, {4, now.why[1], now.why[2]}};
            return level < levels.length ? levels[level][what] : 0;
        }

        int undo() {
            if (past.isEmpty()) {
                return NONE;
            }
            now.m = past.pop();
            return past.size();
        }

        int entry(int r, int c, boolean lower) {
            return row(r) && c >= 0 && c <= columns() ? now.m[r][c].answer(lower) : UNKNOWN;
        }

        int count(int what) {
            switch (what) {
                case 0: return rows();
                case 1: return columns();
                case 2:
                    int n = 0;
                    for (Frac[] r : now.m) {
                        for (int c = 0; c < columns(); c++) {
                            n += r[c].isZero() ? 0 : 1;
                        }
                    }
                    return n;
                case 3: return past.size();
                case 4: return now.tape.size();
                case 5:
                    int best = NONE;
                    int least = Integer.MAX_VALUE;
                    for (int rule = 2; rule >= 0; rule--) {
                        try {
                            int fill = new Elim(now.m, rule).fill();
                            if (fill <= least) {
                                least = fill;
                                best = rule;
                            }
                        } catch (Broken b) {
                            continue;
                        }
                    }
                    return best;
                default: return NONE;
            }
        }

        int pattern(int k, boolean column) {
            int bits = 0;
            if (column ? k < 0 || k > columns() : !row(k)) {
                return NONE;
            }
            for (int i = 0; i < (column ? rows() : columns() + 1); i++) {
                bits += (column ? now.m[i][k] : now.m[k][i]).isZero() ? 0 : 1 << i;
            }
            return bits;
        }

        interface Asked {
            Integer get();
        }

        /** null, BROKEN and LONG all come out as UNKNOWN. */
        static int orUnknown(Asked asked) {
            try {
                Integer v = asked.get();
                return v == null ? UNKNOWN : v;
            } catch (Broken | Unknown b) {
                return UNKNOWN;
            }
        }

        int pivot(int rule, int k, int what) {
            return orUnknown(() -> {
                if (rule < 0 || rule > 2) {
                    return null;
                }
                Elim e = new Elim(now.m, rule);
                if (k == NONE) {
                    return what == 0 ? (Integer) e.pivots.size()
                        : what == 1 ? (Integer) e.fill() : null;
                }
                if (k < 0 || k >= e.pivots.size() || what < 0 || what > 5) {
                    return null;
                }
                Pivot p = e.pivots.get(k);
                return new int[] {p.row, p.column, p.fill, p.weight, p.value.answer(false),
                    p.value.answer(true)}[what];
            });
        }

        static Integer solved(Frac[][] m, int c, boolean lower) {
            Elim e = new Elim(m, 1);
            if (e.kind() == 0 || c < 0 || c >= e.columns) {
                return null;
            }
            Frac v = e.solve(NONE)[c];
            return v == null ? null : v.answer(lower);
        }

        int kind() {
            return orUnknown(() -> new Elim(now.m, 1).kind());
        }

        int solution(int c, boolean lower) {
            return orUnknown(() -> solved(now.m, c, lower));
        }

        int free() {
            return orUnknown(() -> {
                int bits = 0;
                for (int c : new Elim(now.m, 1).cols) {
                    bits |= 1 << c;
                }
                return bits;
            });
        }

        int zero(int free, int c, boolean lower) {
            return orUnknown(() -> {
                Elim e = new Elim(now.m, 1);
                if (!e.cols.contains(free) || !column(c)) {
                    return null;
                }
                Frac v = e.solve(free)[c];
                return v == null ? null : v.answer(lower);
            });
        }

        static Frac[][] withSides(Frac[][] m, Frac[] sides) {
            Frac[][] n = copy(m);
            for (int r = 0; r < n.length; r++) {
                n[r][n[r].length - 1] = sides[r];
            }
            return n;
        }

        Frac[] noSides() {
            Frac[] s = new Frac[rows()];
            Arrays.fill(s, Frac.ZERO);
            return s;
        }

        int determinant(boolean lower) {
            return orUnknown(() -> rows() != columns() ? null
                : (Integer) new Elim(now.m, 1).determinant().answer(lower));
        }

        int inverse(int r, int c, boolean lower) {
            return orUnknown(() -> {
                if (rows() != columns() || !row(r) || !column(c)) {
                    return null;
                }
                Frac[] sides = noSides();
                sides[c] = Frac.ONE;
                Elim e = new Elim(withSides(now.m, sides), 1);
                if (e.pivots.size() < rows()) {
                    return null;
                }
                Frac v = e.solve(NONE)[r];
                return v == null ? null : v.answer(lower);
            });
        }

        int minor(int r, int c, boolean lower) {
            return orUnknown(() -> {
                if (rows() != columns() || !row(r) || !column(c)) {
                    return null;
                }
                if (rows() == 1) {
                    return 1;
                }
                Frac[][] n = zeros(rows() - 1, columns() - 1);
                for (int i = 0; i < rows(); i++) {
                    for (int j = 0; j < columns(); j++) {
                        if (i != r && j != c) {
                            n[i > r ? i - 1 : i][j > c ? j - 1 : j] = now.m[i][j];
                        }
                    }
                }
                Frac d = new Elim(n, 1).determinant();
                return ((r + c) % 2 == 0 ? d : d.negative()).answer(lower);
            });
        }

        int cramer(int c, boolean lower) {
            return orUnknown(() -> {
                if (rows() != columns() || !column(c)) {
                    return null;
                }
                Frac[][] n = withSides(now.m, noSides());
                for (int r = 0; r < rows(); r++) {
                    n[r][c] = now.m[r][columns()];
                }
                return new Elim(n, 1).determinant().answer(lower);
            });
        }

        int would(int side, int upper, int lower, int c, boolean low) {
            return orUnknown(() -> {
                if (side < 0 || side > columns() || !isTold(upper, lower)) {
                    return null;
                }
                Frac[] sides = noSides();
                for (int r = 0; r < rows(); r++) {
                    sides[r] = now.m[r][side].times(Frac.of(upper, lower)).checked();
                }
                return solved(withSides(now.m, sides), c, low);
            });
        }

        int ranked(int r, int c, int upper, int lower) {
            return orUnknown(() -> {
                if (!row(r) || !column(c) || !isTold(upper, lower)) {
                    return null;
                }
                Frac[][] n = copy(now.m);
                n[r][c] = Frac.of(upper, lower);
                return new Elim(n, 1).pivots.size();
            });
        }

        int residue(int r, boolean lower) {
            return orUnknown(() -> {
                Elim e = new Elim(now.m, 1);
                if (!row(r) || e.kind() == 0) {
                    return null;
                }
                Frac[] x = e.solve(NONE);
                Frac sum = Frac.ZERO;
                for (int c = 0; c < columns(); c++) {
                    sum = sum.plus(Elim.product(now.m[r][c], x[c])).checked();
                }
                return sum.plus(now.m[r][columns()].negative()).checked().answer(lower);
            });
        }

        int image(int k) {
            if (k < 0 || k > 2) {
                return 0;
            }
            images[k] = now.twin();
            return 1;
        }

        int again(int k) {
            if (k < 0 || k > 2 || images[k] == null) {
                return 0;
            }
            now = images[k].twin();
            past.clear();
            return 1;
        }
    }

    private static int wrong = 0;
    private static int asked = 0;
    private static int unknown = 0;
    private static final int[] faults = new int[4];
    private static final int[] refusals = new int[4];

    private static final class Run {
        final int number;
        final Random draw;
        final RowPivots x = new RowPivots();
        final Model y = new Model();
        final int wildness;

        Run(int number) {
            this.number = number;
            draw = new Random(number * 7919L + 5);
            wildness = number % 4;
        }

        void same(String call, int got, int want) {
            asked++;
            unknown += want == UNKNOWN ? 1 : 0;
            if (got != want && wrong++ < 40) {
                System.out.println("run " + number + ": " + call + " answered " + got
                    + ", the model has " + want);
            }
        }

        int row() {
            return draw.nextInt(20) == 0 ? draw.nextInt(10) - 2 : draw.nextInt(y.rows());
        }

        int column() {
            return draw.nextInt(20) == 0 ? draw.nextInt(10) - 2 : draw.nextInt(y.columns());
        }

        int side() {
            return draw.nextInt(4) == 0 ? y.columns() : column();
        }

        int upper() {
            if (draw.nextInt(40) == 0) {
                return draw.nextBoolean() ? 1000 : -1000;
            }
            return wildness < 2 || draw.nextInt(3) == 0 ? draw.nextInt(9) - 4
                : draw.nextInt(1999) - 999;
        }

        int lower() {
            if (draw.nextInt(40) == 0) {
                return draw.nextBoolean() ? 100 : 0;
            }
            return wildness == 0 || draw.nextInt(3) == 0 ? 1
                : wildness == 1 ? 1 + draw.nextInt(4) : 1 + draw.nextInt(99);
        }

        int rule() {
            return draw.nextInt(15) == 0 ? draw.nextInt(5) - 1 : draw.nextInt(3);
        }

        String fraction() {
            int up = wildness < 2 ? draw.nextInt(5) : draw.nextInt(1000);
            String s = (draw.nextInt(3) == 0 ? "-" : "") + (draw.nextInt(3) == 0 ? 0 : up);
            return draw.nextInt(3) > 0 && wildness > 0 ? s + "/" + (1 + draw.nextInt(99)) : s;
        }

        String line(int rows, int columns) {
            int r = draw.nextInt(rows);
            int o = draw.nextInt(rows);
            switch (draw.nextInt(12)) {
                case 0: return "swap " + r + " " + o;
                case 1: return "scale " + r + " " + fraction();
                case 2: return "add " + r + " " + o + " " + fraction();
                case 3: return "reduce " + draw.nextInt(3);
                case 4: case 5: case 6:
                    return "set " + r + " " + draw.nextInt(columns + 1) + " " + fraction();
                default:
                    StringBuilder s = new StringBuilder("row " + r);
                    for (int c = 0; c <= columns; c++) {
                        s.append(draw.nextInt(9) == 0 ? "\n" : " ").append(fraction());
                    }
                    return s.toString();
            }
        }

        String spoilt(String s) {
            int at = draw.nextInt(s.length());
            String[] bits = {"0", "9", ";", "-", "/", " ", "a", "row", "A", "\u00e9", "100", "7"};
            String bit = bits[draw.nextInt(bits.length)];
            switch (draw.nextInt(4)) {
                case 0: return s.substring(0, at);
                case 1: return s.substring(0, at) + bit + s.substring(at);
                case 2: return s.substring(0, at) + s.substring(at + 1);
                default: return s.substring(0, at) + bit + s.substring(at + 1);
            }
        }

        void text() {
            int rows = 1 + draw.nextInt(6);
            int columns = draw.nextInt(3) > 0 ? rows : 1 + draw.nextInt(6);
            StringBuilder s = new StringBuilder("size " + rows + " " + columns + ";");
            int lines = draw.nextInt(9);
            for (int r = 0; r < rows && draw.nextInt(12) > 0; r++) {
                s.append("row ").append(r);
                for (int c = 0; c <= columns; c++) {
                    s.append(' ').append(fraction());
                }
                s.append(';');
            }
            for (int k = 0; k < lines; k++) {
                s.append(line(rows, columns)).append(draw.nextInt(9) == 0 ? " ; " : ";");
            }
            while (s.length() > 400) {
                s.setLength(s.lastIndexOf(";"));
                s.setLength(s.lastIndexOf(";") + 1);
            }
            give(draw.nextInt(3) == 0 ? spoilt(s.toString()) : s.toString());
            same("text()", x.text(), y.text());
            same("fault(0)", x.fault(0), y.now.fault);
            same("fault(1)", x.fault(1), y.now.place);
            faults[y.now.fault]++;
        }

        void give(String s) {
            if (draw.nextInt(6) > 0) {
                same("end(0)", x.end(0), y.end(0));
            }
            int before = y.now.tape.size();
            int[] five = new int[5];
            for (int at = 0; at < s.length(); at += 20) {
                for (int k = 0; k < 20; k++) {
                    int sign = at + k < s.length() ? s.charAt(at + k) : draw.nextInt(256);
                    five[k / 4] = five[k / 4] << 8 | sign;
                }
                same("feed", x.feed(five[0], five[1], five[2], five[3], five[4]), y.feed(five));
            }
            int all = before + s.length();
            same("end(" + all + ")", x.end(all), y.end(all));
        }

        void act() {
            int r = row();
            int o = row();
            int u = upper();
            int l = lower();
            int c = side();
            int answer;
            switch (draw.nextInt(wildness == 3 ? 8 : 10)) {
                case 0: case 1: case 8:
                    answer = y.doAct("set", r, c, u, l);
                    same("set " + r + " " + c + " " + u + "/" + l, x.set(r, c, u, l), answer);
                    break;
                case 2:
                    answer = y.doAct("swap", r, o);
                    same("swap " + r + " " + o, x.swap(r, o), answer);
                    break;
                case 3: case 4:
                    answer = y.doAct("scale", r, u, l);
                    same("scale " + r + " " + u + "/" + l, x.scale(r, u, l), answer);
                    break;
                case 5: case 6: case 9:
                    answer = y.doAct("add", r, o, u, l);
                    same("add " + r + " " + o + " " + u + "/" + l, x.add(r, o, u, l), answer);
                    break;
                default:
                    int rule = rule();
                    answer = y.doAct("reduce", rule);
                    same("reduce " + rule, x.reduce(rule), answer);
            }
            refusals[answer]++;
            for (int k = 0; k < 3; k++) {
                same("why(0, " + k + ")", x.why(0, k), y.why(0, k));
                same("why(1, " + k + ")", x.why(1, k), y.why(1, k));
            }
        }

        void ask() {
            int r = row();
            int c = column();
            int s = side();
            int u = upper();
            int l = lower();
            boolean low = draw.nextBoolean();
            same("entry", x.entry(r, s, low), y.entry(r, s, low));
            int what = draw.nextInt(8) - 1;
            same("count(" + what + ")", x.count(what), y.count(what));
            same("pattern row", x.pattern(r, false), y.pattern(r, false));
            same("pattern column", x.pattern(s, true), y.pattern(s, true));
            int rule = rule();
            int k = draw.nextInt(8) - 1;
            int w = draw.nextInt(8) - 1;
            same("pivot(" + rule + ", " + k + ", " + w + ")", x.pivot(rule, k, w),
                y.pivot(rule, k, w));
            same("kind", x.kind(), y.kind());
            same("solution " + c, x.solution(c, low), y.solution(c, low));
            int free = y.free();
            same("free", x.free(), free);
            int f = free > 0 && draw.nextInt(4) > 0 ? Integer.numberOfTrailingZeros(free) : c;
            same("zero " + f + " " + c, x.zero(f, c, low), y.zero(f, c, low));
            same("determinant", x.determinant(low), y.determinant(low));
            same("inverse " + r + " " + c, x.inverse(r, c, low), y.inverse(r, c, low));
            same("minor " + r + " " + c, x.minor(r, c, low), y.minor(r, c, low));
            same("cramer " + c, x.cramer(c, low), y.cramer(c, low));
            same("would", x.would(s, u, l, c, low), y.would(s, u, l, c, low));
            same("ranked", x.ranked(r, c, u, l), y.ranked(r, c, u, l));
            same("residue " + r, x.residue(r, low), y.residue(r, low));
        }

        void step() {
            int choice = draw.nextInt(30);
            if (choice < 2) {
                text();
            } else if (choice < 12) {
                act();
            } else if (choice < 16) {
                same("undo", x.undo(), y.undo());
            } else if (choice < 18) {
                int k = draw.nextInt(5) - 1;
                same("image " + k, x.image(k) ? 1 : 0, y.image(k));
            } else if (choice < 19) {
                int k = draw.nextInt(5) - 1;
                same("again " + k, x.again(k) ? 1 : 0, y.again(k));
            } else {
                ask();
            }
        }

        void go() {
            if (number % 8 != 0) {
                text();
            }
            for (int k = 0; k < 60; k++) {
                step();
            }
        }
    }

    public static void main(String[] args) {
        int runs = args.length > 0 ? Integer.parseInt(args[0]) : 1200;
        for (int k = 0; k < runs; k++) {
            new Run(k).go();
        }
        System.out.println(asked + " answers, " + unknown + " of them UNKNOWN; faults 0 to 3: "
            + Arrays.toString(faults) + "; refusals 0 to 3: " + Arrays.toString(refusals));
        for (int k = 0; k < 4; k++) {
            wrong += faults[k] == 0 || refusals[k] == 0 ? 1 : 0;
        }
        System.out.println(wrong == 0 ? "all as the model has it" : wrong + " are not");
        if (wrong != 0) {
            System.exit(1);
        }
    }
}
