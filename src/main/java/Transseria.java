import java.util.Arrays;

/** Sixteen places that hold ordinals, numbers born by signs, and growths. */
public final class Transseria {
    public static final int NONE = -1;
    public static final int NOTHING = 0, ORDINAL = 1, NUMBER = 2, GROWTH = 3;
    public static final int VANISHES = 0, SETTLES = 1, RISES = 2, FALLS = 3;

    private static final int PLACES = 16;
    private static final int HALVINGS = 20;
    private static final long PARTS_OF_ONE = 1L << HALVINGS;
    private static final long GREATEST_NUMBER = 256L << HALVINGS;

    private final int[] kinds = new int[PLACES];
    private final int[] ordinals = new int[PLACES];
    private final long[] numbers = new long[PLACES];
    private final Growth[] growths = new Growth[PLACES];
    private final Ordinals store = new Ordinals();
    private final Walk walk = new Walk();
    private final Tally tally = new Tally();

    public Transseria() {
        for (int k = 0; k < growths.length; k++) {
            growths[k] = new Growth(Growth.MOST_PARTS);
        }
    }

    // ---- places

    public int kind(int place) throws IndexOutOfBoundsException {
        needPlace(place);
        return Rows.at(kinds, place);
    }

    public int clear(int place) throws IndexOutOfBoundsException {
        needPlace(place);
        int held = Rows.at(kinds, place);
        Rows.put(kinds, place, NOTHING);
        return held;
    }

    // ---- making

    public void finite(int place, int n) throws IndexOutOfBoundsException, IllegalArgumentException {
        needPlace(place);
        needRange(n, 0, Ordinals.MOST_TIMES);
        keepOrdinal(place, store.powerOf(Ordinals.ZERO, n));
    }

    public void omega(int place, int exponent) throws IndexOutOfBoundsException, IllegalStateException {
        needPlace(place);
        needPlace(exponent);
        keepOrdinal(place, store.powerOf(ordinalAt(exponent), 1));
    }

    public void number(int place, int numerator, int power) throws IndexOutOfBoundsException, IllegalArgumentException {
        needPlace(place);
        needRange(power, 0, HALVINGS);
        long made = (long) numerator << (HALVINGS - power);
        if (!numberFits(made)) {
            throw new IllegalArgumentException("the number is not from -256 to 256");
        }
        keepNumber(place, made);
    }

    public void signs(int place, int row, int length) throws IndexOutOfBoundsException, IllegalArgumentException {
        needPlace(place);
        needRange(length, 0, HALVINGS);
        needRange(row, 0, (1 << length) - 1);
        walk.along(row, length);
        keepNumber(place, walk.value());
    }

    public void term(int place, int times, int exp, int x, int log, int loglog) throws IndexOutOfBoundsException, IllegalArgumentException {
        needPlace(place);
        needRange(times, -1000000, 1000000);
        needRange(exp, -20, 20);
        needRange(x, -20, 20);
        needRange(log, -20, 20);
        needRange(loglog, -20, 20);
        tally.restart();
        tally.addPart(times, Growth.keyOf(exp, x, log, loglog));
        keepGrowth(place);
    }

    // ---- reckoning

    public int sum(int place, int one, int other) throws IndexOutOfBoundsException, IllegalStateException {
        needThree(place, one, other);
        int kind = commonKind(one, other);
        if (kind == ORDINAL) {
            keepOrdinal(place, store.added(ordinalAt(one), ordinalAt(other)));
        } else if (kind == NUMBER) {
            keepNumber(place, numberAt(one) + numberAt(other));
        } else {
            addGrowths(growthAt(one), growthAt(other), 1);
            keepGrowth(place);
        }
        return kind;
    }

    public int product(int place, int one, int other) throws IndexOutOfBoundsException, IllegalStateException {
        needThree(place, one, other);
        int kind = commonKind(one, other);
        if (kind == ORDINAL) {
            keepOrdinal(place, store.multiplied(ordinalAt(one), ordinalAt(other)));
        } else if (kind == NUMBER) {
            keepNumber(place, multipliedNumbers(numberAt(one), numberAt(other)));
        } else {
            multiplyGrowths(growthAt(one), growthAt(other));
            keepGrowth(place);
        }
        return kind;
    }

    public int difference(int place, int one, int other) throws IndexOutOfBoundsException, IllegalStateException {
        needThree(place, one, other);
        int kind = commonKind(one, other);
        if (kind == ORDINAL) {
            throw new IllegalStateException("ordinals have no difference here");
        }
        if (kind == NUMBER) {
            keepNumber(place, numberAt(one) - numberAt(other));
        } else {
            addGrowths(growthAt(one), growthAt(other), -1);
            keepGrowth(place);
        }
        return kind;
    }

    public void natural(int place, int one, int other, boolean isProduct) throws IndexOutOfBoundsException, IllegalStateException {
        needThree(place, one, other);
        int a = ordinalAt(one);
        int b = ordinalAt(other);
        keepOrdinal(place, isProduct ? store.naturallyMultiplied(a, b) : store.naturallyAdded(a, b));
    }

    public void derive(int place, int one) throws IndexOutOfBoundsException, IllegalStateException {
        needPlace(place);
        needPlace(one);
        Growth growth = growthAt(one);
        tally.restart();
        for (int what = Growth.EXP; what <= Growth.LOGLOG; what++) {
            tally.addSlopes(growth, what);
        }
        keepGrowth(place);
    }

    public int compare(int one, int other) throws IndexOutOfBoundsException, IllegalStateException {
        needPlace(one);
        needPlace(other);
        int kind = commonKind(one, other);
        if (kind == ORDINAL) {
            return store.compared(ordinalAt(one), ordinalAt(other));
        }
        if (kind == NUMBER) {
            return Long.compare(numberAt(one), numberAt(other));
        }
        return growthAt(one).comparedWith(growthAt(other));
    }

    // ---- ordinals

    public void step(int place, int one, int n) throws IndexOutOfBoundsException, IllegalArgumentException, IllegalStateException {
        needPlace(place);
        needPlace(one);
        needRange(n, 1, 99);
        int from = ordinalAt(one);
        if (from == Ordinals.ZERO) {
            throw new IllegalStateException("0 has no step");
        }
        keepOrdinal(place, store.stepped(from, n));
    }

    public int descent(int one, int n, int most) throws IndexOutOfBoundsException, IllegalArgumentException, IllegalStateException {
        needPlace(one);
        needRange(n, 1, 99);
        needRange(most, 0, 2000);
        return store.stepsToZero(ordinalAt(one), n, most);
    }

    public int powers(int one) throws IndexOutOfBoundsException, IllegalStateException {
        needPlace(one);
        return store.powersOf(ordinalAt(one));
    }

    public long times(int one, int k) throws IndexOutOfBoundsException, IllegalStateException {
        needPlace(one);
        needRow(k);
        return store.timesOf(ordinalWithPower(one, k), k);
    }

    public void exponent(int place, int one, int k) throws IndexOutOfBoundsException, IllegalStateException {
        needPlace(place);
        needPlace(one);
        needRow(k);
        keepOrdinal(place, store.exponentOf(ordinalWithPower(one, k), k));
    }

    // ---- numbers

    public int cut(int place, int lows, int highs) throws IndexOutOfBoundsException, IllegalArgumentException, IllegalStateException {
        needPlace(place);
        needRange(lows, 0, (1 << PLACES) - 1);
        needRange(highs, 0, (1 << PLACES) - 1);
        long low = greatestOf(lows);
        long high = leastOf(highs);
        if (low >= high || !walk.between(low, high)) {
            throw new IllegalStateException("no whole number of parts lies between");
        }
        keepNumber(place, walk.value());
        return walk.length();
    }

    public int birthday(int one) throws IndexOutOfBoundsException, IllegalStateException {
        needPlace(one);
        walk.toward(numberAt(one), Walk.LONGEST);
        return walk.length();
    }

    public int signOf(int one, int k) throws IndexOutOfBoundsException, IllegalStateException {
        needPlace(one);
        needRow(k);
        long number = numberAt(one);
        walk.toward(number, k);
        return Long.compare(number, walk.value());
    }

    public long parts(int one) throws IndexOutOfBoundsException, IllegalStateException {
        needPlace(one);
        return numberAt(one);
    }

    // ---- growths

    public int tends(int one) throws IndexOutOfBoundsException, IllegalStateException {
        needPlace(one);
        return growthAt(one).limit();
    }

    public int terms(int one) throws IndexOutOfBoundsException, IllegalStateException {
        needPlace(one);
        return growthAt(one).count();
    }

    public long part(int one, int k, int what) throws IndexOutOfBoundsException, IllegalArgumentException, IllegalStateException {
        needPlace(one);
        needRow(k);
        needRange(what, Growth.TIMES, Growth.LOGLOG);
        Growth growth = growthAt(one);
        if (k >= growth.count()) {
            throw new IllegalStateException("not so many parts");
        }
        return what == Growth.TIMES ? growth.timesAt(k) : Growth.exponentIn(growth.keyAt(k), what);
    }

    // ---- what the calls ask of their arguments

    private static void needPlace(int place) {
        if (place < 0 || place >= PLACES) {
            throw new IndexOutOfBoundsException("no such place");
        }
    }

    private static void needThree(int place, int one, int other) {
        needPlace(place);
        needPlace(one);
        needPlace(other);
    }

    private static void needRow(int k) {
        if (k < 0) {
            throw new IndexOutOfBoundsException("a number of a row is below 0");
        }
    }

    private static void needRange(int value, int least, int most) {
        if (value < least || value > most) {
            throw new IllegalArgumentException("out of its range");
        }
    }

    // ---- what the places hold

    private int commonKind(int one, int other) {
        int kind = Rows.at(kinds, one);
        if (kind == NOTHING || kind != Rows.at(kinds, other)) {
            throw new IllegalStateException("nothing, or unlike things");
        }
        return kind;
    }

    private int ordinalAt(int place) {
        if (Rows.at(kinds, place) != ORDINAL) {
            throw new IllegalStateException("no ordinal");
        }
        return Rows.at(ordinals, place);
    }

    private int ordinalWithPower(int place, int k) {
        int ordinal = ordinalAt(place);
        if (k >= store.powersOf(ordinal)) {
            throw new IllegalStateException("not so many powers");
        }
        return ordinal;
    }

    private long numberAt(int place) {
        if (Rows.at(kinds, place) != NUMBER) {
            throw new IllegalStateException("no number");
        }
        return Rows.at(numbers, place);
    }

    private Growth growthAt(int place) {
        Growth growth = growthRow(place);
        if (Rows.at(kinds, place) != GROWTH || growth == null) {
            throw new IllegalStateException("no growth");
        }
        return growth;
    }

    private Growth growthRow(int place) {
        return place >= 0 && place < growths.length ? growths[place] : null;
    }

    private void keepOrdinal(int place, int ordinal) {
        store.keep();
        Rows.put(ordinals, place, ordinal);
        Rows.put(kinds, place, ORDINAL);
    }

    private void keepNumber(int place, long made) {
        if (!numberFits(made)) {
            throw new IllegalStateException("the number does not fit");
        }
        Rows.put(numbers, place, made);
        Rows.put(kinds, place, NUMBER);
    }

    private void keepGrowth(int place) {
        Growth made = tally.growth();
        Growth row = growthRow(place);
        if (row == null || !made.fits()) {
            throw new IllegalStateException("the growth does not fit");
        }
        row.copy(made);
        Rows.put(kinds, place, GROWTH);
    }

    // ---- numbers and growths

    private static boolean numberFits(long made) {
        return made >= -GREATEST_NUMBER && made <= GREATEST_NUMBER;
    }

    private static long multipliedNumbers(long a, long b) {
        long made = a * b;
        if ((made & (PARTS_OF_ONE - 1)) != 0) {
            throw new IllegalStateException("no whole number of parts");
        }
        return made >> HALVINGS;
    }

    private long greatestOf(int places) {
        long greatest = -Walk.FAR;
        for (int k = 0; k < PLACES; k++) {
            if (((places >> k) & 1) != 0) {
                greatest = Math.max(greatest, numberAt(k));
            }
        }
        return greatest;
    }

    private long leastOf(int places) {
        long least = Walk.FAR;
        for (int k = 0; k < PLACES; k++) {
            if (((places >> k) & 1) != 0) {
                least = Math.min(least, numberAt(k));
            }
        }
        return least;
    }

    private void addGrowths(Growth one, Growth other, int often) {
        tally.restart();
        tally.addMultiple(one, 1, Growth.CONSTANT);
        tally.addMultiple(other, often, Growth.CONSTANT);
    }

    private void multiplyGrowths(Growth one, Growth other) {
        tally.restart();
        for (int k = 0; k < one.count(); k++) {
            tally.addMultiple(other, one.timesAt(k), one.keyAt(k));
        }
    }

    /** Rows whose every index is looked at here, so that no slip elsewhere becomes an exception of the machine. */
    private static final class Rows {
        // Beyond the longest row that the ordinals of 512 calls can ask for.
        private static final int LONGEST = 1 << 20;

        static int at(int[] row, int k) {
            return k >= 0 && k < row.length ? row[k] : 0;
        }

        static long at(long[] row, int k) {
            return k >= 0 && k < row.length ? row[k] : 0;
        }

        static void put(int[] row, int k, int value) {
            if (k >= 0 && k < row.length) {
                row[k] = value;
            }
        }

        static void put(long[] row, int k, long value) {
            if (k >= 0 && k < row.length) {
                row[k] = value;
            }
        }

        static int[] withRoom(int[] row, int length) {
            return length <= row.length || length > LONGEST ? row : Arrays.copyOf(row, 2 * length);
        }
    }

    /** The powers of an ordinal that is being made; their times are long, for they may yet be too many. */
    private static final class Draft {
        private final long[] times = new long[Ordinals.MOST_POWERS * Ordinals.MOST_POWERS];
        private final int[] exponents = new int[Ordinals.MOST_POWERS * Ordinals.MOST_POWERS];
        private int count;

        int count() {
            return count;
        }

        long timesAt(int k) {
            return Rows.at(times, k);
        }

        int exponentAt(int k) {
            return Rows.at(exponents, k);
        }

        void restart() {
            count = 0;
        }

        void add(long often, int exponent) {
            if (count < times.length) {
                Rows.put(times, count, often);
                Rows.put(exponents, count, exponent);
                count++;
            }
        }

        void insert(int where, long often, int exponent) {
            add(often, exponent);
            for (int k = count - 1; k > where; k--) {
                Rows.put(times, k, Rows.at(times, k - 1));
                Rows.put(exponents, k, Rows.at(exponents, k - 1));
            }
            Rows.put(times, where, often);
            Rows.put(exponents, where, exponent);
        }

        void raise(int where, long often) {
            Rows.put(times, where, Rows.at(times, where) + often);
        }
    }

    /**
     * All ordinals that were made, each known by a number, their powers behind one another in shared rows:
     * an exponent is again such a number, so that nothing is ever copied below the first level.
     */
    private static final class Ordinals {
        static final int ZERO = 0;
        static final int MOST_POWERS = 8;
        static final int MOST_TIMES = 1000000;
        private static final int MOST_DEPTH = 5;
        // 512 calls keep at most 9 each, and a descent makes at most 5 in each of its 2000 steps.
        private static final int MOST_ORDINALS = 16384;

        // Ordinal k has the powers from starts[k] on, up to starts[k + 1]; ordinal 0, ZERO, alone has none.
        private int[] starts = new int[32];
        private int[] depths = new int[32];
        private int[] times = new int[64];
        private int[] exponents = new int[64];
        private int count = 1;
        private int kept = 1;
        private final Draft draft = new Draft();
        private final Draft pairs = new Draft();
        private final int[] sums = new int[MOST_POWERS];

        int powersOf(int a) {
            return Rows.at(starts, a + 1) - Rows.at(starts, a);
        }

        int timesOf(int a, int k) {
            return Rows.at(times, Rows.at(starts, a) + k);
        }

        int exponentOf(int a, int k) {
            return Rows.at(exponents, Rows.at(starts, a) + k);
        }

        void keep() {
            kept = count;
        }

        private void forget() {
            count = kept;
        }

        int powerOf(int exponent, int often) {
            draft.restart();
            if (often > 0) {
                draft.add(often, exponent);
            }
            return made(draft);
        }

        int added(int a, int b) {
            if (b == ZERO) {
                return a;
            }
            int first = exponentOf(b, 0);
            int above = powersAbove(a, 0, first);
            boolean both = above < powersOf(a) && order(exponentOf(a, above), first, MOST_DEPTH) == 0;
            long together = (long) timesOf(b, 0) + (both ? timesOf(a, above) : 0);
            draft.restart();
            draftPowers(a, 0, above);
            draft.add(together, first);
            draftPowers(b, 1, powersOf(b));
            return made(draft);
        }

        int multiplied(int a, int b) {
            if (a == ZERO || b == ZERO) {
                return ZERO;
            }
            int first = exponentOf(a, 0);
            int many = powersOf(b);
            // The sums come first, for they use the same draft.
            for (int k = 0; k < many; k++) {
                Rows.put(sums, k, added(first, exponentOf(b, k)));
            }
            draft.restart();
            for (int k = 0; k < many; k++) {
                if (exponentOf(b, k) == ZERO) {
                    draft.add((long) timesOf(a, 0) * timesOf(b, k), first);
                    draftPowers(a, 1, powersOf(a));
                } else {
                    draft.add(timesOf(b, k), Rows.at(sums, k));
                }
            }
            return made(draft);
        }

        int naturallyAdded(int a, int b) {
            draft.restart();
            int k = 0;
            for (int m = 0; m < powersOf(b); m++) {
                int exponent = exponentOf(b, m);
                int above = powersAbove(a, k, exponent);
                draftPowers(a, k, above);
                boolean both = above < powersOf(a) && order(exponentOf(a, above), exponent, MOST_DEPTH) == 0;
                draft.add((long) timesOf(b, m) + (both ? timesOf(a, above) : 0), exponent);
                k = both ? above + 1 : above;
            }
            draftPowers(a, k, powersOf(a));
            return made(draft);
        }

        int naturallyMultiplied(int a, int b) {
            pairs.restart();
            for (int k = 0; k < powersOf(a); k++) {
                for (int m = 0; m < powersOf(b); m++) {
                    addPair((long) timesOf(a, k) * timesOf(b, m), exponentOf(a, k), exponentOf(b, m));
                }
            }
            return made(pairs);
        }

        private void addPair(long often, int one, int other) {
            int before = count;
            int exponent = naturallyAdded(one, other);
            int where = 0;
            while (where < pairs.count() && order(pairs.exponentAt(where), exponent, MOST_DEPTH) > 0) {
                where++;
            }
            if (where < pairs.count() && order(pairs.exponentAt(where), exponent, MOST_DEPTH) == 0) {
                pairs.raise(where, often);
                // The same exponent stands already: the one just made is not kept.
                count = before;
            } else {
                pairs.insert(where, often, exponent);
            }
        }

        int compared(int a, int b) {
            return order(a, b, MOST_DEPTH);
        }

        private int order(int a, int b, int levels) {
            if (a == b || levels <= 0) {
                return 0;
            }
            int shared = Math.min(powersOf(a), powersOf(b));
            for (int k = 0; k < shared; k++) {
                int first = order(exponentOf(a, k), exponentOf(b, k), levels - 1);
                if (first == 0) {
                    first = Integer.compare(timesOf(a, k), timesOf(b, k));
                }
                if (first != 0) {
                    return first;
                }
            }
            return Integer.compare(powersOf(a), powersOf(b));
        }

        int stepped(int a, int n) {
            return lower(a, n, MOST_DEPTH);
        }

        private int lower(int a, int n, int levels) {
            if (a == ZERO || levels <= 0) {
                return ZERO;
            }
            int exponent = exponentOf(a, powersOf(a) - 1);
            // A step of an exponent that ends finite takes 1 from it, whatever n is.
            int next = lower(exponent, n, levels - 1);
            draftLess(a, 1);
            if (exponent != ZERO) {
                draft.add(finiteTail(exponent) > 0 ? n : 1, next);
            }
            return made(draft);
        }

        int stepsToZero(int from, int n, int most) {
            int now = from;
            int steps = 0;
            // Each turn takes a step or more, up to most.
            while (now != ZERO && steps < most) {
                int tail = finiteTail(now);
                int taken = Math.max(1, Math.min(tail, most - steps));
                now = tail > 0 ? lessened(now, taken) : stepped(now, n + steps);
                steps += taken;
            }
            forget();
            return now == ZERO ? steps : NONE;
        }

        private int lessened(int a, int less) {
            draftLess(a, less);
            return made(draft);
        }

        private int finiteTail(int a) {
            int last = powersOf(a) - 1;
            return last >= 0 && exponentOf(a, last) == ZERO ? timesOf(a, last) : 0;
        }

        /** Where the powers of a with exponents above one end, from a power on that may have one. */
        private int powersAbove(int a, int from, int exponent) {
            int above = from;
            while (above < powersOf(a) && order(exponentOf(a, above), exponent, MOST_DEPTH) > 0) {
                above++;
            }
            return above;
        }

        private void draftLess(int a, int less) {
            int last = powersOf(a) - 1;
            draft.restart();
            draftPowers(a, 0, last);
            if (timesOf(a, last) > less) {
                draft.add(timesOf(a, last) - less, exponentOf(a, last));
            }
        }

        private void draftPowers(int a, int from, int end) {
            for (int k = from; k < end; k++) {
                draft.add(timesOf(a, k), exponentOf(a, k));
            }
        }

        private int made(Draft powers) {
            if (powers.count() == 0) {
                return ZERO;
            }
            int depth = depthOf(powers);
            if (depth > MOST_DEPTH || !powersFit(powers) || count >= MOST_ORDINALS) {
                forget();
                throw new IllegalStateException("the ordinal does not fit");
            }
            write(powers, depth);
            return count - 1;
        }

        private int depthOf(Draft powers) {
            int deepest = 0;
            for (int k = 0; k < powers.count(); k++) {
                deepest = Math.max(deepest, Rows.at(depths, powers.exponentAt(k)));
            }
            return deepest + 1;
        }

        private static boolean powersFit(Draft powers) {
            boolean fit = powers.count() <= MOST_POWERS;
            for (int k = 0; k < powers.count(); k++) {
                fit = fit && powers.timesAt(k) <= MOST_TIMES;
            }
            return fit;
        }

        private void write(Draft powers, int depth) {
            int start = Rows.at(starts, count);
            int end = start + powers.count();
            starts = Rows.withRoom(starts, count + 2);
            depths = Rows.withRoom(depths, count + 1);
            times = Rows.withRoom(times, end);
            exponents = Rows.withRoom(exponents, end);
            for (int k = 0; k < powers.count(); k++) {
                Rows.put(times, start + k, (int) powers.timesAt(k));
                Rows.put(exponents, start + k, powers.exponentAt(k));
            }
            Rows.put(depths, count, depth);
            Rows.put(starts, count + 1, end);
            count++;
        }
    }

    /** A way from 0 by signs, with the nearest numbers on both sides that it went past. */
    private static final class Walk {
        // The most signs of a number that fits are 276; the way to 257, which does not, has 257.
        static final int LONGEST = 300;
        // Beyond every number on any way.
        static final long FAR = 1L << 40;

        private long value;
        private long below;
        private long above;
        private int length;

        long value() {
            return value;
        }

        int length() {
            return length;
        }

        private void restart() {
            value = 0;
            below = -FAR;
            above = FAR;
            length = 0;
        }

        void along(int row, int signs) {
            restart();
            for (int k = 0; k < signs; k++) {
                goes(((row >> k) & 1) != 0);
            }
        }

        void toward(long target, int signs) {
            restart();
            int most = Math.min(signs, LONGEST);
            for (int k = 0; k < most && value != target; k++) {
                goes(target > value);
            }
        }

        /** Answers whether the simplest number between is a whole number of parts. */
        boolean between(long low, long high) {
            restart();
            boolean whole = true;
            for (int k = 0; k < LONGEST && whole && (value <= low || value >= high); k++) {
                whole = goes(value <= low);
            }
            return whole;
        }

        /** Answers false, and stays, where the next number would be no whole number of parts. */
        private boolean goes(boolean up) {
            long bound = up ? above : below;
            boolean free = bound == FAR || bound == -FAR;
            long twice = bound - value;
            if (!free && (twice & 1) != 0) {
                return false;
            }
            long past = value;
            if (free) {
                value += up ? PARTS_OF_ONE : -PARTS_OF_ONE;
            } else {
                value += twice / 2;
            }
            below = up ? past : below;
            above = up ? above : past;
            length++;
            return true;
        }
    }

    /** Parts in their order: of each its times, and its four exponents in one key, so that a greater key is a greater product. */
    private static final class Growth {
        static final int MOST_PARTS = 20;
        static final int TIMES = 0, EXP = 1, X = 2, LOG = 3, LOGLOG = 4;
        // Ten bits an exponent, 512 for 0: those of a product, up to 198, do not touch one another on the way.
        private static final int WIDTH = 10;
        private static final long MIDDLE = 512;
        static final long CONSTANT = (MIDDLE << (3 * WIDTH)) + (MIDDLE << (2 * WIDTH)) + (MIDDLE << WIDTH) + MIDDLE;
        private static final int MOST_TIMES = 100000000;
        private static final int MOST_EXPONENT = 99;

        private final long[] times;
        private final long[] keys;
        private int count;

        Growth(int room) {
            times = new long[Math.max(room, 0)];
            keys = new long[Math.max(room, 0)];
        }

        static long keyOf(int exp, int x, int log, int loglog) {
            return CONSTANT + ((long) exp << (3 * WIDTH)) + ((long) x << (2 * WIDTH)) + ((long) log << WIDTH) + loglog;
        }

        static int exponentIn(long key, int what) {
            return (int) (((key >> (WIDTH * (LOGLOG - what))) & (2 * MIDDLE - 1)) - MIDDLE);
        }

        int count() {
            return count;
        }

        long timesAt(int k) {
            return Rows.at(times, k);
        }

        long keyAt(int k) {
            return Rows.at(keys, k);
        }

        void restart() {
            count = 0;
        }

        void add(long often, long key) {
            if (often != 0 && count < times.length) {
                Rows.put(times, count, often);
                Rows.put(keys, count, key);
                count++;
            }
        }

        void copy(Growth other) {
            restart();
            for (int k = 0; k < other.count(); k++) {
                add(other.timesAt(k), other.keyAt(k));
            }
        }

        boolean fits() {
            boolean fit = count <= MOST_PARTS;
            for (int k = 0; k < count; k++) {
                fit = fit && timesAt(k) >= -MOST_TIMES && timesAt(k) <= MOST_TIMES && exponentsFit(keyAt(k));
            }
            return fit;
        }

        private static boolean exponentsFit(long key) {
            boolean fit = true;
            for (int what = EXP; what <= LOGLOG; what++) {
                int exponent = exponentIn(key, what);
                fit = fit && exponent >= -MOST_EXPONENT && exponent <= MOST_EXPONENT;
            }
            return fit;
        }

        int comparedWith(Growth other) {
            int most = Math.max(count, other.count());
            for (int k = 0; k < most; k++) {
                // Behind the last part the key is 0, less than that of any part.
                long key = k < count ? keyAt(k) : 0;
                long otherKey = k < other.count() ? other.keyAt(k) : 0;
                long mine = key >= otherKey ? timesAt(k) : 0;
                long its = otherKey >= key ? other.timesAt(k) : 0;
                if (mine != its) {
                    return Long.compare(mine, its);
                }
            }
            return 0;
        }

        int limit() {
            if (count == 0 || keyAt(0) < CONSTANT) {
                return VANISHES;
            }
            if (keyAt(0) == CONSTANT) {
                return SETTLES;
            }
            return timesAt(0) > 0 ? RISES : FALLS;
        }
    }

    /** A growth that is being made: it may be too long, or too great, until its last row is in. */
    private static final class Tally {
        private Growth now = new Growth(Growth.MOST_PARTS * Growth.MOST_PARTS);
        private Growth next = new Growth(Growth.MOST_PARTS * Growth.MOST_PARTS);
        private final Growth row = new Growth(Growth.MOST_PARTS);

        Growth growth() {
            return now;
        }

        void restart() {
            now.restart();
        }

        void addPart(long often, long key) {
            row.restart();
            row.add(often, key);
            addRow();
        }

        void addMultiple(Growth growth, long often, long key) {
            row.restart();
            for (int k = 0; k < growth.count(); k++) {
                row.add(growth.timesAt(k) * often, growth.keyAt(k) + key - Growth.CONSTANT);
            }
            addRow();
        }

        /** What the derivative has by one of the four powers: the slope of each but exp x divides by all from x to it. */
        void addSlopes(Growth growth, int what) {
            long slope = Growth.keyOf(0, what >= Growth.X ? -1 : 0, what >= Growth.LOG ? -1 : 0, what >= Growth.LOGLOG ? -1 : 0);
            row.restart();
            for (int k = 0; k < growth.count(); k++) {
                long key = growth.keyAt(k);
                row.add(growth.timesAt(k) * Growth.exponentIn(key, what), key + slope - Growth.CONSTANT);
            }
            addRow();
        }

        private void addRow() {
            next.restart();
            int k = 0;
            for (int m = 0; m < row.count(); m++) {
                long key = row.keyAt(m);
                long together = row.timesAt(m);
                for (; k < now.count() && now.keyAt(k) > key; k++) {
                    next.add(now.timesAt(k), now.keyAt(k));
                }
                if (k < now.count() && now.keyAt(k) == key) {
                    together += now.timesAt(k);
                    k++;
                }
                next.add(together, key);
            }
            for (; k < now.count(); k++) {
                next.add(now.timesAt(k), now.keyAt(k));
            }
            Growth spare = now;
            now = next;
            next = spare;
        }
    }
}
