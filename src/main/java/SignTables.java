/**
 * Stability tables: polynomials judged by sign rows in whole numbers. What each
 * call answers and changes is told in ../shared/DOC.md; words in capitals there
 * stand in small letters here.
 */
public final class SignTables {
    public static final int NONE = -1, BAD = -2, STATE = -3, FULL = -4, GREAT = -7;
    public static final long NO = Long.MIN_VALUE;

    private static final int NOTHING = -11, CAST = -12, PLACE = -13, SIZE = -14;

    private static final int POWERS = 7;
    private static final int MOST_COEFFICIENT = 99;
    private static final int MOST_GAIN = 100;
    private static final int GAINS = 2 * MOST_GAIN + 1;
    private static final int PARTS = 16;
    private static final int MOST_PLACE = 20;
    private static final int MOST_WAITING = 16;
    private static final int MOST_FACTORS = 6;
    private static final int MOST_BYTES = 60;
    private static final int TRAYS = 4;
    private static final int MOST_ITEMS = 30;

    private static final int PLAIN = 0, MIRROR = 1, TURNED = 2, CIRCLE = 3;
    private static final int UNSHIFTED = 30;

    private final Holdings now = new Holdings();
    private final Holdings kept = new Holdings();
    private boolean imageTaken;
    private final Text tape = new Text();
    private int textsRead;
    private final Tray[] trays = new Tray[TRAYS];
    private final Table table = new Table();
    private final Chain chained = new Chain();
    private final Steadiness steadiness = new Steadiness();
    private final Spans lineSpans = new Spans(0);
    private final Spans circleSpans = new Spans(1);
    private final Rights rightsByGain = new Rights();
    private final long[] mixed = new long[POWERS];

    public SignTables() {
        now.p[1] = 1;
        for (int i = 0; i < TRAYS; i++) {
            trays[i] = new Tray();
        }
    }

    // ---- P, Q, K

    public long set(int which, int power, int v) {
        if (which < 0 || which > 1 || !isPower(power) || !isWithin(v, MOST_COEFFICIENT)) {
            return NO;
        }
        long[] coefficients = which == 0 ? now.p : now.q;
        long before = coefficients[power];
        coefficients[power] = v;
        forgetSurveys();
        return before;
    }

    public long of(int which, int power) {
        if (which < 0 || which > 2 || !isPower(power)) {
            return NO;
        }
        if (which == 2) {
            return currentC()[power];
        }
        return which == 0 ? now.p[power] : now.q[power];
    }

    public int gain(int k) {
        if (!isWithin(k, MOST_GAIN)) {
            return BAD;
        }
        now.k = k;
        return 1;
    }

    // ---- the tape

    public int feed(int letter) {
        if (letter < 0 || letter > 127) {
            return BAD;
        }
        if (tape.size >= MOST_BYTES) {
            return FULL;
        }
        tape.append(letter);
        return tape.size;
    }

    public int read() {
        tape.parse();
        tape.size = 0;
        if (tape.fault != NONE) {
            return -100 - tape.fault;
        }
        System.arraycopy(tape.p, 0, now.p, 0, POWERS);
        System.arraycopy(tape.q, 0, now.q, 0, POWERS);
        forgetSurveys();
        textsRead++;
        return tape.terms;
    }

    // ---- forms and their sign rows

    public long form(int form, int power) {
        if (!isForm(form) || !isPower(power)) {
            return NO;
        }
        table.shape(currentC(), form);
        return table.coefficients[power];
    }

    public int degree(int form, int what) {
        if (!isForm(form) || what < 0 || what > 1) {
            return BAD;
        }
        table.shape(currentC(), form);
        return what == 0 ? table.top : table.lacking;
    }

    public long row(int form, int k, int j) {
        if (!isForm(form)) {
            return NO;
        }
        Table rows = tableOf(form);
        if (rows.great || !rows.hasRow(k) || j < 0 || j >= rows.width(k)) {
            return NO;
        }
        return rows.item(k, j);
    }

    public int caseOf(int form, int k) {
        if (!isForm(form)) {
            return BAD;
        }
        Table rows = tableOf(form);
        if (!rows.hasRow(k)) {
            return NONE;
        }
        return rows.great ? GREAT : rows.mending(k);
    }

    public int roots(int form, int what) {
        if (!isForm(form) || what < 0 || what > 4) {
            return BAD;
        }
        Table rows = tableOf(form);
        if (rows.great) {
            return GREAT;
        }
        switch (what) {
            case 0:
                return rows.rightCount();
            case 1:
                return rows.axisCount();
            case 2:
                return rows.leftCount();
            case 3:
                return rows.firstNothing();
            default:
                return rows.axisCount() + (form == CIRCLE ? rows.lacking : 0);
        }
    }

    public int changes(int form, int i, int j) {
        if (!isForm(form)) {
            return BAD;
        }
        Table rows = tableOf(form);
        if (!rows.hasRow(i) || !rows.hasRow(j) || j < i) {
            return NONE;
        }
        return rows.great ? GREAT : rows.signChanges(i, j);
    }

    public int strip(int a, int b) {
        if (!isWithin(a, MOST_PLACE) || !isWithin(b, MOST_PLACE) || b <= a) {
            return BAD;
        }
        Table rows = tableOf(UNSHIFTED + a);
        if (rows.great) {
            return GREAT;
        }
        int outside = rows.leftCount() + rows.axisCount();
        rows = tableOf(UNSHIFTED + b);
        return rows.great ? GREAT : rows.leftCount() - outside;
    }

    public int reach() {
        int n = Polynomials.highest(currentC());
        if (n < 1) {
            return BAD;
        }
        int low = -MOST_PLACE - 1;
        int high = MOST_PLACE + 1;
        for (int round = 0; round < 2 * MOST_PLACE && high - low > 1; round++) {
            int middle = (low + high) / 2;
            Table rows = tableOf(UNSHIFTED + middle);
            if (rows.great) {
                return GREAT;
            }
            if (rows.leftCount() == n) {
                high = middle;
            } else {
                low = middle;
            }
        }
        return high > MOST_PLACE ? NONE : high + 1000;
    }

    // ---- gains by which all is steady

    public int steady(int kind, int u, int v) {
        if (!isKind(kind) || u < 1 || u > PARTS || !isWithin(v, PARTS * MOST_GAIN)) {
            return BAD;
        }
        return steadiness.holds(now, kind, u, v) ? 1 : 0;
    }

    public int spans(int kind) {
        return isKind(kind) ? spansOf(kind).size : BAD;
    }

    public int span(int kind, int i, int what) {
        if (!isKind(kind) || what < 0 || what > 4) {
            return BAD;
        }
        Spans found = spansOf(kind);
        if (i < 0 || i >= found.size) {
            return NONE;
        }
        switch (what) {
            case 0:
                return found.firsts[i] + 1000;
            case 1:
                return found.lasts[i] + 1000;
            case 2:
                return found.firstEdge(i, now, steadiness) + 10000;
            case 3:
                return found.lastEdge(i, now, steadiness) + 10000;
            default:
                return found.lasts[i] - found.firsts[i] + 1;
        }
    }

    public int nearest(int kind, int k) {
        if (!isKind(kind) || !isWithin(k, MOST_GAIN)) {
            return BAD;
        }
        return spansOf(kind).closestTo(k);
    }

    // ---- the chain

    public int links() {
        if (!chained.build(currentC())) {
            return BAD;
        }
        return chained.great ? GREAT : chained.size;
    }

    public long link(int i, int power) {
        if (!chained.build(currentC()) || chained.great) {
            return NO;
        }
        if (i < 0 || i >= chained.size || !isPower(power)) {
            return NO;
        }
        return chained.coefficient(i, power);
    }

    public int chain(int x) {
        if (!isWithin(x, MOST_PLACE) || !chained.build(currentC())) {
            return BAD;
        }
        return chained.changesAt(x);
    }

    public int real(int a, int b) {
        if (!isWithin(a, MOST_PLACE) || !isWithin(b, MOST_PLACE) || b <= a) {
            return BAD;
        }
        if (!chained.build(currentC())) {
            return BAD;
        }
        int atA = chained.changesAt(a);
        int atB = chained.changesAt(b);
        return atA == GREAT || atB == GREAT ? GREAT : atA - atB + 100;
    }

    // ---- gains that wait

    public int await(int k) {
        if (!isWithin(k, MOST_GAIN)) {
            return BAD;
        }
        if (now.waits >= MOST_WAITING) {
            return FULL;
        }
        now.line[now.waits] = k;
        now.waits++;
        return now.waits;
    }

    public int next() {
        if (now.waits == 0) {
            return STATE;
        }
        now.k = now.line[0];
        now.firstBecomesLast();
        now.waits--;
        return now.waits;
    }

    public int waiting(int i) {
        return i < 0 || i >= now.waits ? NONE : now.line[i] + 1000;
    }

    public int weed(int kind, int how) {
        if (!isKind(kind) || how < 0 || how > 2) {
            return BAD;
        }
        int before = now.waits;
        int stay = 0;
        for (int i = 0; i < before; i++) {
            int k = now.line[i];
            boolean weeded = how == 2
                ? now.waitsAhead(k, stay)
                : steadiness.holds(now, kind, 1, k) == (how == 1);
            if (!weeded) {
                now.line[stay] = k;
                stay++;
            }
        }
        now.waits = stay;
        return before - stay;
    }

    public int swap(int how) {
        switch (how) {
            case 0:
                now.turnLine();
                break;
            case 1:
                now.sortLine();
                break;
            case 2:
                now.firstBecomesLast();
                break;
            default:
                return BAD;
        }
        return now.waits;
    }

    // ---- factors

    public int factor(int kind, int a, int b) {
        if (kind < 0 || kind > 3) {
            return NONE;
        }
        boolean hasA = kind == 0 || kind == 1;
        boolean hasB = kind == 1 || kind == 3;
        if (hasA && !isWithin(a, MOST_PLACE) || hasB && !isWithin(b, MOST_PLACE)) {
            return BAD;
        }
        if (now.factorCount >= MOST_FACTORS) {
            return FULL;
        }
        now.factors[now.factorCount].become(kind, hasA ? a : 0, hasB ? b : 0);
        now.factorCount++;
        return now.factorCount;
    }

    public int factored(int i, int what) {
        if (i < 0 || i >= now.factorCount || what < 0 || what > 7) {
            return NONE;
        }
        Factor asked = now.factors[i];
        switch (what) {
            case 0:
                return asked.kind;
            case 1:
                return asked.a + 100;
            case 2:
                return asked.size() == 1 ? NONE : asked.b + 100;
            case 3:
                return asked.size();
            case 4:
                return asked.rightCount();
            case 5:
                return asked.axisCount();
            case 6:
                return asked.leftCount();
            default:
                return asked.timesWithin(currentC());
        }
    }

    public int unfactor(int i) {
        if (i < 0 || i >= now.factorCount) {
            return NONE;
        }
        now.dropFactor(i);
        return now.factorCount;
    }

    public int known(int what) {
        switch (what) {
            case 0:
                return now.factorsRight();
            case 1:
                return now.factorsAxis();
            case 2:
                return now.factorsLeft();
            case 3:
                return now.factorsSize();
            default:
                return BAD;
        }
    }

    public int multiply() {
        int size = now.factorsSize();
        if (size >= POWERS) {
            return STATE;
        }
        now.productInto(mixed);
        for (int i = 0; i < POWERS; i++) {
            if (mixed[i] < -MOST_COEFFICIENT || mixed[i] > MOST_COEFFICIENT) {
                return GREAT;
            }
        }
        System.arraycopy(mixed, 0, now.p, 0, POWERS);
        forgetSurveys();
        return size;
    }

    // ---- roots on the right by each gain

    public int rights(int k) {
        if (!isWithin(k, MOST_GAIN)) {
            return BAD;
        }
        rightsByGain.survey(now);
        return rightsByGain.at(k);
    }

    public int jumps() {
        rightsByGain.survey(now);
        return rightsByGain.jumpCount();
    }

    public int jump(int i) {
        rightsByGain.survey(now);
        if (i < 0 || i >= rightsByGain.jumpCount()) {
            return NONE;
        }
        return rightsByGain.jumpAt(i) + 1000;
    }

    public int best() {
        rightsByGain.survey(now);
        return rightsByGain.hasBest() ? rightsByGain.bestGain() + 1000 : NONE;
    }

    // ---- trays

    public int tray(int tray, int sort, int n) {
        if (!isTray(tray)) {
            return NONE;
        }
        if (sort < -1 || sort > 1 || sort != -1 && n > MOST_ITEMS) {
            return BAD;
        }
        if (sort != -1 && n < 0) {
            return SIZE;
        }
        trays[tray].become(sort, sort == -1 ? 0 : n);
        return 1;
    }

    public int put(int tray, int i, long v) {
        if (!isTray(tray)) {
            return NONE;
        }
        Tray asked = trays[tray];
        if (asked.isNothing()) {
            return NOTHING;
        }
        if (i < 0 || i >= asked.size) {
            return PLACE;
        }
        asked.store(i, v);
        return 1;
    }

    public long get(int tray, int i) {
        if (!isTray(tray)) {
            return NO;
        }
        Tray asked = trays[tray];
        return asked.isNothing() || i < 0 || i >= asked.size ? NO : asked.items[i];
    }

    public int fill(int tray, int form, int k) {
        int refusal = refusalOfRow(tray, form, k);
        if (refusal != 0) {
            return refusal;
        }
        Tray asked = trays[tray];
        int both = Math.min(asked.size, table.width(k));
        for (int j = 0; j < both; j++) {
            asked.store(j, table.item(k, j));
        }
        return both;
    }

    public int judge(int tray, int form, int k) {
        int refusal = refusalOfRow(tray, form, k);
        if (refusal != 0) {
            return refusal;
        }
        Tray asked = trays[tray];
        for (int j = 0; j < asked.size; j++) {
            if (j >= table.width(k) || asked.items[j] != table.item(k, j)) {
                return j;
            }
        }
        return NONE;
    }

    public int copy(int tray, int i, int other, int j, int n) {
        if (!isTray(tray) || !isTray(other)) {
            return NONE;
        }
        Tray from = trays[tray];
        Tray to = trays[other];
        if (from.isNothing() || to.isNothing()) {
            return NOTHING;
        }
        if (from.sort != to.sort) {
            return CAST;
        }
        if (!from.hasPart(i, n) || !to.hasPart(j, n)) {
            return PLACE;
        }
        System.arraycopy(from.items, i, to.items, j, n);
        return n;
    }

    // ---- counts and the image

    public int count(int what) {
        switch (what) {
            case 0:
                return now.waits;
            case 1:
                return tape.size;
            case 2:
                return textsRead;
            case 3:
                return spansOf(0).size + spansOf(1).size;
            case 4:
                return now.k + 1000;
            case 5:
                return now.factorCount;
            default:
                return BAD;
        }
    }

    public int image() {
        kept.takeOver(now);
        imageTaken = true;
        return now.waits;
    }

    public int undo() {
        if (!imageTaken) {
            return STATE;
        }
        now.takeOver(kept);
        forgetSurveys();
        return now.waits;
    }

    // ---- what several calls share

    private static boolean isWithin(int v, int most) {
        return v >= -most && v <= most;
    }

    private static boolean isPower(int power) {
        return power >= 0 && power < POWERS;
    }

    private static boolean isKind(int kind) {
        return kind == 0 || kind == 1;
    }

    private static boolean isTray(int tray) {
        return tray >= 0 && tray < TRAYS;
    }

    private static boolean isForm(int form) {
        boolean named = form >= PLAIN && form <= CIRCLE;
        return named || form >= UNSHIFTED - MOST_PLACE && form <= UNSHIFTED + MOST_PLACE;
    }

    private long[] currentC() {
        Polynomials.mix(now.p, 1, now.q, now.k, mixed);
        return mixed;
    }

    private Table tableOf(int form) {
        table.shape(currentC(), form);
        table.build();
        return table;
    }

    private Spans spansOf(int kind) {
        Spans asked = kind == 0 ? lineSpans : circleSpans;
        asked.survey(now, steadiness);
        return asked;
    }

    // What was found for all gains holds only as long as P and Q do.
    private void forgetSurveys() {
        lineSpans.surveyed = false;
        circleSpans.surveyed = false;
        rightsByGain.surveyed = false;
    }

    // 0, and the table is laid, if a tray and a row can be set against each other.
    private int refusalOfRow(int tray, int form, int k) {
        if (!isTray(tray)) {
            return NONE;
        }
        if (!isForm(form)) {
            return BAD;
        }
        if (trays[tray].isNothing()) {
            return NOTHING;
        }
        Table rows = tableOf(form);
        if (!rows.hasRow(k)) {
            return NONE;
        }
        return rows.great ? GREAT : 0;
    }

    /** Longs that know when they are too great: then they are NO, and stay so. */
    private static final class Exact {
        // Euclid's way takes at most 91 steps for longs.
        private static final int STEPS = 100;

        static long times(long a, long b) {
            if (a == NO || b == NO) {
                return NO;
            }
            if (a == 0 || b == 0) {
                return 0;
            }
            long product = a * b;
            return product == NO || product / b != a ? NO : product;
        }

        static long plus(long a, long b) {
            if (a == NO || b == NO) {
                return NO;
            }
            long sum = a + b;
            boolean wrapped = ((a ^ sum) & (b ^ sum)) < 0;
            return wrapped ? NO : sum;
        }

        static long less(long a, long b) {
            if (a == NO || b == NO) {
                return NO;
            }
            long difference = a - b;
            boolean wrapped = ((a ^ b) & (a ^ difference)) < 0;
            return wrapped ? NO : difference;
        }

        static long divisor(long a, long b) {
            long greater = a < 0 ? -a : a;
            long lesser = b < 0 ? -b : b;
            for (int step = 0; step < STEPS && lesser != 0; step++) {
                long rest = greater % lesser;
                greater = lesser;
                lesser = rest;
            }
            return greater;
        }
    }

    /** What is done with whole polynomials, and with rows alike. */
    private static final class Polynomials {
        static int highest(long[] c) {
            for (int i = c.length - 1; i >= 0; i--) {
                if (c[i] != 0) {
                    return i;
                }
            }
            return NONE;
        }

        static void mix(long[] p, int u, long[] q, int v, long[] into) {
            for (int i = 0; i < POWERS; i++) {
                into[i] = u * p[i] + v * q[i];
            }
        }

        static boolean isGreat(long[] c) {
            for (int i = 0; i < c.length; i++) {
                if (c[i] == NO) {
                    return true;
                }
            }
            return false;
        }

        static void shrink(long[] c) {
            long all = 0;
            for (int i = 0; i < c.length; i++) {
                all = Exact.divisor(all, c[i]);
            }
            if (all < 2) {
                return;
            }
            for (int i = 0; i < c.length; i++) {
                c[i] /= all;
            }
        }

        // c becomes c times (s and a).
        static void stretch(long[] c, int a) {
            for (int i = POWERS - 1; i > 0; i--) {
                c[i] = c[i - 1] + a * c[i];
            }
            c[0] *= a;
        }
    }

    /** A form of a polynomial, and its sign rows. */
    private static final class Table {
        // As many items as the longest row has; what is beyond a row's end is kept 0.
        private static final int WIDTH = POWERS / 2 + 1;

        final long[] coefficients = new long[POWERS];
        private final long[] lessOne = new long[POWERS];
        private final long[][] items = new long[POWERS][WIDTH];
        private final int[] cases = new int[POWERS];
        int top = NONE;
        int lacking;
        boolean great;

        void shape(long[] c, int form) {
            int n = Polynomials.highest(c);
            System.arraycopy(c, 0, coefficients, 0, POWERS);
            if (form == MIRROR) {
                mirror();
            } else if (form == TURNED) {
                turn(c, n);
            } else if (form == CIRCLE) {
                carry(c, n);
            } else if (form != PLAIN) {
                shift(form - UNSHIFTED, n);
            }
            top = Polynomials.highest(coefficients);
            lacking = n - top;
        }

        private void mirror() {
            for (int i = 1; i < POWERS; i += 2) {
                coefficients[i] = -coefficients[i];
            }
        }

        private void turn(long[] c, int n) {
            for (int i = 0; i <= n; i++) {
                coefficients[i] = c[n - i];
            }
        }

        private void carry(long[] c, int n) {
            for (int i = 0; i < POWERS; i++) {
                coefficients[i] = 0;
                lessOne[i] = 0;
            }
            lessOne[0] = 1;
            for (int i = n; i >= 0; i--) {
                Polynomials.stretch(coefficients, 1);
                for (int j = 0; j < POWERS; j++) {
                    coefficients[j] += c[i] * lessOne[j];
                }
                Polynomials.stretch(lessOne, -1);
            }
        }

        private void shift(int a, int n) {
            for (int i = 0; i < n; i++) {
                for (int j = n - 1; j >= i; j--) {
                    coefficients[j] += a * coefficients[j + 1];
                }
            }
        }

        void build() {
            great = false;
            for (int k = 0; k <= top && !great; k++) {
                if (k < 2) {
                    takeRow(k);
                } else {
                    crossRow(k);
                }
                cases[k] = k == 0 ? 0 : mendRow(k);
                great = Polynomials.isGreat(items[k]);
                if (!great) {
                    Polynomials.shrink(items[k]);
                }
            }
        }

        private void takeRow(int k) {
            for (int j = 0; j < WIDTH; j++) {
                int power = top - k - 2 * j;
                items[k][j] = power < 0 ? 0 : coefficients[power];
            }
        }

        private void crossRow(int k) {
            long[] a = items[k - 2];
            long[] b = items[k - 1];
            for (int j = 0; j < WIDTH; j++) {
                long item = 0;
                if (j < width(k)) {
                    item = Exact.less(Exact.times(b[0], behind(a, j)), Exact.times(a[0], behind(b, j)));
                }
                items[k][j] = b[0] < 0 ? -item : item;
            }
        }

        private static long behind(long[] row, int j) {
            return j + 1 < row.length ? row[j + 1] : 0;
        }

        private int mendRow(int k) {
            int z = 0;
            while (z < width(k) && items[k][z] == 0) {
                z++;
            }
            if (z == 0) {
                return 0;
            }
            if (z == width(k)) {
                for (int j = 0; j < width(k); j++) {
                    items[k][j] = Exact.times(items[k - 1][j], top - k + 1 - 2 * j);
                }
                return 2;
            }
            for (int j = 0; j + z < width(k); j++) {
                long more = items[k][j + z];
                items[k][j] = Exact.plus(items[k][j], z % 2 == 1 ? -more : more);
            }
            return 1;
        }

        boolean hasRow(int k) {
            return k >= 0 && k <= top;
        }

        int width(int k) {
            return (top - k) / 2 + 1;
        }

        long item(int k, int j) {
            return items[k][j];
        }

        int mending(int k) {
            return cases[k];
        }

        int signChanges(int i, int j) {
            int found = 0;
            for (int k = i + 1; k <= j; k++) {
                if (items[k][0] < 0 != items[k - 1][0] < 0) {
                    found++;
                }
            }
            return found;
        }

        int firstNothing() {
            for (int k = 0; k <= top; k++) {
                if (cases[k] == 2) {
                    return k;
                }
            }
            return NONE;
        }

        int rightCount() {
            return signChanges(0, top);
        }

        int axisCount() {
            int k = firstNothing();
            return k < 1 ? 0 : top - k + 1 - 2 * signChanges(k - 1, top);
        }

        int leftCount() {
            return top < 1 ? 0 : top - rightCount() - axisCount();
        }
    }

    /** Links that count roots on the line of numbers. */
    private static final class Chain {
        private final long[][] links = new long[POWERS][POWERS];
        private final long[] rest = new long[POWERS];
        int size;
        boolean great;

        // False: c is not of a degree that has a chain.
        boolean build(long[] c) {
            size = 0;
            great = false;
            if (Polynomials.highest(c) < 1) {
                return false;
            }
            append(c, 1);
            for (int i = 0; i < POWERS; i++) {
                rest[i] = i + 1 < POWERS ? (i + 1) * c[i + 1] : 0;
            }
            append(rest, 1);
            for (int i = 2; i < POWERS; i++) {
                divide(links[i - 2], links[i - 1]);
                if (great || Polynomials.highest(rest) < 0) {
                    return true;
                }
                append(rest, -1);
            }
            return true;
        }

        private void append(long[] c, int sign) {
            for (int i = 0; i < POWERS; i++) {
                links[size][i] = sign * c[i];
            }
            Polynomials.shrink(links[size]);
            size++;
        }

        // Rest becomes what is left of a; each round takes one power of it at least.
        private void divide(long[] a, long[] b) {
            System.arraycopy(a, 0, rest, 0, POWERS);
            int least = Polynomials.highest(b);
            for (int round = 0; round < POWERS && !great; round++) {
                int highest = Polynomials.highest(rest);
                if (least < 0 || highest < least) {
                    return;
                }
                lower(highest, b, least);
                great = Polynomials.isGreat(rest);
            }
        }

        private void lower(int highest, long[] b, int least) {
            long first = rest[highest];
            for (int i = 0; i < POWERS; i++) {
                rest[i] = Exact.times(rest[i], Math.abs(b[least]));
            }
            int e = highest - least;
            for (int i = 0; i <= least; i++) {
                long part = Exact.times(first, b[i]);
                rest[i + e] = Exact.less(rest[i + e], b[least] < 0 ? -part : part);
            }
        }

        long coefficient(int i, int power) {
            return links[i][power];
        }

        int changesAt(int x) {
            int found = 0;
            long ahead = 0;
            for (int i = 0; i < size && !great; i++) {
                long value = valueAt(links[i], x);
                if (value == NO) {
                    return GREAT;
                }
                if (value != 0) {
                    found += ahead != 0 && ahead < 0 != value < 0 ? 1 : 0;
                    ahead = value;
                }
            }
            return great ? GREAT : found;
        }

        private static long valueAt(long[] c, int x) {
            long value = 0;
            for (int i = Polynomials.highest(c); i >= 0; i--) {
                value = Exact.plus(Exact.times(value, x), c[i]);
            }
            return value;
        }
    }

    /** One polynomial that is known to divide: (s and a), or (s s and a s and b). */
    private static final class Factor {
        int kind;
        int a;
        int b;

        void become(int kind, int a, int b) {
            this.kind = kind;
            this.a = a;
            this.b = b;
        }

        int size() {
            return kind == 0 || kind == 2 ? 1 : 2;
        }

        int rightCount() {
            if (size() == 2 && b < 0) {
                return 1;
            }
            if (a >= 0) {
                return 0;
            }
            return size() == 2 && b > 0 ? 2 : 1;
        }

        int axisCount() {
            if (size() == 1) {
                return a == 0 ? 1 : 0;
            }
            if (b < 0) {
                return 0;
            }
            if (b == 0) {
                return a == 0 ? 2 : 1;
            }
            return a == 0 ? 2 : 0;
        }

        int leftCount() {
            return size() - rightCount() - axisCount();
        }

        // c becomes c times this factor.
        void stretch(long[] c) {
            if (size() == 1) {
                Polynomials.stretch(c, a);
                return;
            }
            for (int i = POWERS - 1; i >= 0; i--) {
                long first = i < 2 ? 0 : c[i - 2];
                long second = i < 1 ? 0 : c[i - 1];
                c[i] = first + a * second + b * c[i];
            }
        }

        // c is used up by this.
        int timesWithin(long[] c) {
            int times = 0;
            while (times < POWERS && Polynomials.highest(c) >= size() && dividesOnce(c)) {
                times++;
            }
            return times;
        }

        // c becomes the quotient, if nothing is left over.
        private boolean dividesOnce(long[] c) {
            int size = size();
            for (int i = Polynomials.highest(c); i >= size; i--) {
                c[i - 1] -= a * c[i];
                if (size == 2) {
                    c[i - 2] -= b * c[i];
                }
            }
            if (c[0] != 0 || size == 2 && c[1] != 0) {
                return false;
            }
            for (int i = 0; i < POWERS; i++) {
                c[i] = i + size < POWERS ? c[i + size] : 0;
            }
            return true;
        }
    }

    /** All that an image keeps. */
    private static final class Holdings {
        final long[] p = new long[POWERS];
        final long[] q = new long[POWERS];
        int k;
        final int[] line = new int[MOST_WAITING];
        int waits;
        final Factor[] factors = new Factor[MOST_FACTORS];
        int factorCount;

        Holdings() {
            for (int i = 0; i < MOST_FACTORS; i++) {
                factors[i] = new Factor();
            }
        }

        void takeOver(Holdings other) {
            System.arraycopy(other.p, 0, p, 0, POWERS);
            System.arraycopy(other.q, 0, q, 0, POWERS);
            k = other.k;
            System.arraycopy(other.line, 0, line, 0, MOST_WAITING);
            waits = other.waits;
            for (int i = 0; i < MOST_FACTORS; i++) {
                Factor theirs = other.factors[i];
                factors[i].become(theirs.kind, theirs.a, theirs.b);
            }
            factorCount = other.factorCount;
        }

        boolean waitsAhead(int k, int end) {
            for (int i = 0; i < end; i++) {
                if (line[i] == k) {
                    return true;
                }
            }
            return false;
        }

        void turnLine() {
            for (int i = 0; i < waits / 2; i++) {
                exchange(i, waits - 1 - i);
            }
        }

        void sortLine() {
            for (int end = 1; end < waits; end++) {
                for (int i = end; i > 0 && line[i - 1] > line[i]; i--) {
                    exchange(i - 1, i);
                }
            }
        }

        void firstBecomesLast() {
            for (int i = 1; i < waits; i++) {
                exchange(i - 1, i);
            }
        }

        private void exchange(int i, int j) {
            int one = line[i];
            line[i] = line[j];
            line[j] = one;
        }

        void dropFactor(int i) {
            factorCount--;
            for (int j = i; j < factorCount; j++) {
                Factor behind = factors[j + 1];
                factors[j].become(behind.kind, behind.a, behind.b);
            }
        }

        int factorsRight() {
            int all = 0;
            for (int i = 0; i < factorCount; i++) {
                all += factors[i].rightCount();
            }
            return all;
        }

        int factorsAxis() {
            int all = 0;
            for (int i = 0; i < factorCount; i++) {
                all += factors[i].axisCount();
            }
            return all;
        }

        int factorsLeft() {
            return factorsSize() - factorsRight() - factorsAxis();
        }

        int factorsSize() {
            int all = 0;
            for (int i = 0; i < factorCount; i++) {
                all += factors[i].size();
            }
            return all;
        }

        // The product is whole only while the factors' size is below POWERS.
        void productInto(long[] product) {
            for (int i = 0; i < POWERS; i++) {
                product[i] = i == 0 ? 1 : 0;
            }
            for (int i = 0; i < factorCount; i++) {
                factors[i].stretch(product);
            }
        }
    }

    /** The tape, and what is read from it. */
    private static final class Text {
        private final int[] bytes = new int[MOST_BYTES];
        final long[] p = new long[POWERS];
        final long[] q = new long[POWERS];
        int size;
        int terms;
        int fault;
        private int place;

        void append(int letter) {
            if (size < MOST_BYTES) {
                bytes[size] = letter;
                size++;
            }
        }

        // Fault is NONE, if the whole tape is a text.
        void parse() {
            for (int i = 0; i < POWERS; i++) {
                p[i] = 0;
                q[i] = 0;
            }
            terms = 0;
            fault = NONE;
            place = 0;
            takeTerms(p, true);
            if (fault == NONE && signAt(place) != 0) {
                takeGained();
            }
            if (fault == NONE && place < size) {
                fault = place;
            }
        }

        private void takeGained() {
            int sign = signAt(place);
            place += 2;
            expect('(');
            if (fault == NONE) {
                takeTerms(q, false);
            }
            if (fault == NONE) {
                expect(')');
            }
            for (int i = 0; i < POWERS; i++) {
                q[i] *= sign;
            }
        }

        // Of the outer terms a sign ahead of K is none of theirs.
        private void takeTerms(long[] into, boolean outer) {
            int sign = 1;
            if (letterAt(place) == '-') {
                sign = -1;
                place++;
            }
            takeTerm(into, sign);
            for (int i = 0; i < MOST_BYTES && fault == NONE; i++) {
                sign = signAt(place);
                if (sign == 0 || outer && letterAt(place + 1) == 'K') {
                    return;
                }
                place++;
                takeTerm(into, sign);
            }
        }

        private void takeTerm(long[] into, int sign) {
            int start = place;
            int number = takeNumber();
            int power = 0;
            if (letterAt(place) == 's') {
                number = place == start ? 1 : number;
                place++;
                power = takePower();
            }
            if (place == start) {
                fault = place;
                return;
            }
            terms++;
            into[power] += sign * number;
            if (into[power] < -MOST_COEFFICIENT || into[power] > MOST_COEFFICIENT) {
                fault = start;
            }
        }

        private int takeNumber() {
            int number = 0;
            for (int digits = 0; digits < 2; digits++) {
                int letter = letterAt(place);
                if (letter < '0' || letter > '9') {
                    return number;
                }
                number = 10 * number + letter - '0';
                place++;
            }
            return number;
        }

        private int takePower() {
            int letter = letterAt(place);
            if (letter < '1' || letter > '6') {
                return 1;
            }
            place++;
            return letter - '0';
        }

        private void expect(int letter) {
            if (letterAt(place) == letter) {
                place++;
            } else {
                fault = place;
            }
        }

        private int signAt(int i) {
            int letter = letterAt(i);
            if (letter == '+') {
                return 1;
            }
            return letter == '-' ? -1 : 0;
        }

        private int letterAt(int i) {
            return i < 0 || i >= size || i >= MOST_BYTES ? NONE : bytes[i];
        }
    }

    /** Up to 30 items of a sort, or nothing. */
    private static final class Tray {
        final long[] items = new long[MOST_ITEMS];
        int sort = -1;
        int size;

        void become(int sort, int size) {
            this.sort = sort;
            this.size = size;
            for (int i = 0; i < MOST_ITEMS; i++) {
                items[i] = 0;
            }
        }

        boolean isNothing() {
            return sort == -1;
        }

        boolean hasPart(int i, int n) {
            return n >= 0 && n <= size && i >= 0 && i <= size - n;
        }

        void store(int i, long v) {
            items[i] = sort == 1 ? (int) v : v;
        }
    }

    /** Whether all roots lie where they should, of u times P and v times Q. */
    private static final class Steadiness {
        private final long[] mixture = new long[POWERS];
        private final Table rows = new Table();

        boolean holds(Holdings held, int kind, int u, int v) {
            int whole = Math.max(Polynomials.highest(held.p), Polynomials.highest(held.q));
            Polynomials.mix(held.p, u, held.q, v, mixture);
            if (whole < 1 || Polynomials.highest(mixture) != whole) {
                return false;
            }
            rows.shape(mixture, kind == 0 ? PLAIN : CIRCLE);
            rows.build();
            if (rows.great || rows.lacking != 0) {
                return false;
            }
            return rows.rightCount() == 0 && rows.axisCount() == 0;
        }
    }

    /** The spans of gains that are steady by one kind. */
    private static final class Spans {
        private static final int MOST = MOST_GAIN + 1;
        private static final int HALVINGS = 4;

        private final int kind;
        final int[] firsts = new int[MOST];
        final int[] lasts = new int[MOST];
        int size;
        boolean surveyed;

        Spans(int kind) {
            this.kind = kind;
        }

        void survey(Holdings held, Steadiness judge) {
            if (surveyed) {
                return;
            }
            size = 0;
            boolean inside = false;
            for (int k = -MOST_GAIN; k <= MOST_GAIN; k++) {
                boolean holds = judge.holds(held, kind, 1, k);
                if (holds && !inside && size < MOST) {
                    firsts[size] = k;
                    size++;
                }
                if (holds && size > 0) {
                    lasts[size - 1] = k;
                }
                inside = holds;
            }
            surveyed = true;
        }

        int firstEdge(int i, Holdings held, Steadiness judge) {
            int first = firsts[i];
            return first == -MOST_GAIN ? -PARTS * MOST_GAIN : edge(first, first - 1, held, judge);
        }

        int lastEdge(int i, Holdings held, Steadiness judge) {
            int last = lasts[i];
            return last == MOST_GAIN ? PARTS * MOST_GAIN : edge(last, last + 1, held, judge);
        }

        // Between the two there is always an even number of parts, so each half is whole.
        private int edge(int steady, int unsteady, Holdings held, Steadiness judge) {
            int in = PARTS * steady;
            int out = PARTS * unsteady;
            for (int round = 0; round < HALVINGS; round++) {
                int middle = (in + out) / 2;
                if (judge.holds(held, kind, PARTS, middle)) {
                    in = middle;
                } else {
                    out = middle;
                }
            }
            return in;
        }

        int closestTo(int k) {
            int closest = NONE;
            int least = GAINS;
            for (int i = 0; i < size; i++) {
                int away = Math.max(0, Math.max(firsts[i] - k, k - lasts[i]));
                if (away < least) {
                    least = away;
                    closest = i;
                }
            }
            return closest;
        }
    }

    /** How many roots of C lie on the right, for every gain. */
    private static final class Rights {
        private final long[] mixture = new long[POWERS];
        private final Table rows = new Table();
        private final int[] counts = new int[GAINS];
        boolean surveyed;

        void survey(Holdings held) {
            if (surveyed) {
                return;
            }
            for (int k = -MOST_GAIN; k <= MOST_GAIN; k++) {
                Polynomials.mix(held.p, 1, held.q, k, mixture);
                rows.shape(mixture, PLAIN);
                rows.build();
                counts[k + MOST_GAIN] = rows.great ? GREAT : rows.rightCount();
            }
            surveyed = true;
        }

        int at(int k) {
            return counts[k + MOST_GAIN];
        }

        private boolean isJump(int k) {
            return at(k) != at(k - 1);
        }

        int jumpCount() {
            int found = 0;
            for (int k = 1 - MOST_GAIN; k <= MOST_GAIN; k++) {
                found += isJump(k) ? 1 : 0;
            }
            return found;
        }

        int jumpAt(int i) {
            int found = 0;
            for (int k = 1 - MOST_GAIN; k <= MOST_GAIN; k++) {
                found += isJump(k) ? 1 : 0;
                if (found > i) {
                    return k;
                }
            }
            return MOST_GAIN;
        }

        boolean hasBest() {
            for (int i = 0; i < GAINS; i++) {
                if (counts[i] != GREAT) {
                    return true;
                }
            }
            return false;
        }

        int bestGain() {
            int found = MOST_GAIN;
            int least = POWERS;
            for (int k = -MOST_GAIN; k <= MOST_GAIN; k++) {
                int here = at(k);
                boolean nearer = here == least && Math.abs(k) < Math.abs(found);
                if (here != GREAT && (here < least || nearer)) {
                    found = k;
                    least = here;
                }
            }
            return found;
        }
    }
}
