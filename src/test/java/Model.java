import java.math.BigInteger;
import java.util.ArrayList;
import java.util.Arrays;
import java.util.Comparator;
import java.util.List;
import java.util.Map;
import java.util.TreeMap;

/** The document told once more, in the slowest and plainest way, for runs to be held against it. */
public final class Model {
    static final BigInteger ZERO = BigInteger.ZERO, ONE = BigInteger.ONE;
    static final BigInteger MOST_TIMES = BigInteger.valueOf(1000000);

    /** An ordinal: exponents that fall, and how many times each. */
    static final class Ordinal {
        final List<Ordinal> exponents = new ArrayList<>();
        final List<BigInteger> times = new ArrayList<>();

        Ordinal with(Ordinal exponent, BigInteger often) {
            Ordinal more = new Ordinal();
            more.exponents.addAll(exponents);
            more.times.addAll(times);
            more.exponents.add(exponent);
            more.times.add(often);
            return more;
        }

        int size() {
            return exponents.size();
        }

        int depth() {
            int depth = 0;
            for (Ordinal e : exponents) {
                depth = Math.max(depth, 1 + e.depth());
            }
            return depth;
        }

        boolean fits() {
            boolean fits = size() <= 8 && depth() <= 5;
            for (BigInteger often : times) {
                fits &= often.compareTo(MOST_TIMES) <= 0;
            }
            for (Ordinal e : exponents) {
                fits &= e.fits();
            }
            return fits;
        }
    }

    static final Comparator<Ordinal> ORDER = Model::order;

    static int order(Ordinal a, Ordinal b) {
        for (int k = 0; k < a.size() || k < b.size(); k++) {
            if (k >= a.size()) {
                return -1;
            }
            if (k >= b.size()) {
                return 1;
            }
            int order = order(a.exponents.get(k), b.exponents.get(k));
            if (order == 0) {
                order = a.times.get(k).compareTo(b.times.get(k));
            }
            if (order != 0) {
                return order;
            }
        }
        return 0;
    }

    static Ordinal of(Map<Ordinal, BigInteger> powers) {
        Ordinal made = new Ordinal();
        for (Map.Entry<Ordinal, BigInteger> power : powers.entrySet()) {
            made = made.with(power.getKey(), power.getValue());
        }
        return made;
    }

    static Map<Ordinal, BigInteger> powersOf(Ordinal a) {
        Map<Ordinal, BigInteger> powers = new TreeMap<>(ORDER.reversed());
        for (int k = 0; k < a.size(); k++) {
            powers.put(a.exponents.get(k), a.times.get(k));
        }
        return powers;
    }

    static Ordinal add(Ordinal a, Ordinal b) {
        if (b.size() == 0) {
            return a;
        }
        Ordinal first = b.exponents.get(0);
        Map<Ordinal, BigInteger> powers = powersOf(b);
        for (int k = 0; k < a.size(); k++) {
            int order = order(a.exponents.get(k), first);
            if (order >= 0) {
                powers.merge(a.exponents.get(k), a.times.get(k), BigInteger::add);
            }
        }
        return of(powers);
    }

    static Ordinal multiply(Ordinal a, Ordinal b) {
        Ordinal made = new Ordinal();
        for (int k = 0; a.size() > 0 && k < b.size(); k++) {
            if (b.exponents.get(k).size() > 0) {
                made = made.with(add(a.exponents.get(0), b.exponents.get(k)), b.times.get(k));
            } else {
                made = made.with(a.exponents.get(0), a.times.get(0).multiply(b.times.get(k)));
                for (int m = 1; m < a.size(); m++) {
                    made = made.with(a.exponents.get(m), a.times.get(m));
                }
            }
        }
        return made;
    }

    static Ordinal naturalSum(Ordinal a, Ordinal b) {
        Map<Ordinal, BigInteger> powers = powersOf(a);
        powersOf(b).forEach((exponent, often) -> powers.merge(exponent, often, BigInteger::add));
        return of(powers);
    }

    static Ordinal naturalProduct(Ordinal a, Ordinal b) {
        Map<Ordinal, BigInteger> powers = new TreeMap<>(ORDER.reversed());
        powersOf(a).forEach((e, s) -> powersOf(b).forEach((f, t) ->
                powers.merge(naturalSum(e, f), s.multiply(t), BigInteger::add)));
        return of(powers);
    }

    static Ordinal step(Ordinal a, int n) {
        Ordinal made = new Ordinal();
        int last = a.size() - 1;
        for (int k = 0; k < last; k++) {
            made = made.with(a.exponents.get(k), a.times.get(k));
        }
        Ordinal e = a.exponents.get(last);
        if (a.times.get(last).compareTo(ONE) > 0) {
            made = made.with(e, a.times.get(last).subtract(ONE));
        }
        if (e.size() > 0 && e.exponents.get(e.size() - 1).size() == 0) {
            made = made.with(step(e, 1), BigInteger.valueOf(n));
        } else if (e.size() > 0) {
            made = made.with(step(e, n), ONE);
        }
        return made;
    }

    /** Numbers are held in shares of a part, of which 2^20 are a part, so that those between two parts are whole too. */
    static final long PART = 1L << 20, UNIT = 1L << 40;

    /** The number of a row of signs, every number that it goes past kept in a list. */
    static long ofSigns(int row, int length) {
        List<Long> past = new ArrayList<>();
        long now = 0;
        for (int k = 0; k < length; k++) {
            boolean plus = (row >> k & 1) == 1;
            Long bound = null;
            for (long p : past) {
                if (plus && p > now && (bound == null || p < bound) || !plus && p < now && (bound == null || p > bound)) {
                    bound = p;
                }
            }
            past.add(now);
            now = bound == null ? now + (plus ? UNIT : -UNIT) : now + (bound - now) / 2;
        }
        return now;
    }

    static int birthdayOf(long number) {
        long size = Math.abs(number);
        if (size % UNIT == 0) {
            return (int) (size / UNIT);
        }
        return (int) (size / UNIT) + 1 + 40 - Long.numberOfTrailingZeros(size);
    }

    /** The whole row of signs: whole ones to the next whole number above, then the first halves that lead on. */
    static int signOf(long number, int k) {
        if (k >= birthdayOf(number)) {
            return 0;
        }
        int side = number < 0 ? -1 : 1;
        long size = Math.abs(number);
        long whole = (size + UNIT - 1) / UNIT;
        if (k < whole) {
            return side;
        }
        long now = whole * UNIT;
        long width = UNIT;
        for (int at = (int) whole; ; at++) {
            int sign = size > now ? 1 : -1;
            if (at == k) {
                return sign * side;
            }
            width /= 2;
            now += sign * width;
        }
    }

    /** The simplest of all between: 0, the least whole one on the near side, or the one of the fewest halvings. */
    static long simplest(long low, long high) {
        if (low < 0 && high > 0) {
            return 0;
        }
        if (high <= 0) {
            return -simplest(-high, -low);
        }
        for (long width = UNIT; ; width /= 2) {
            long next = (low / width + 1) * width;
            if (next < high) {
                return next;
            }
        }
    }

    static final Comparator<List<Integer>> FALLING = (a, b) -> {
        for (int k = 0; k < 4; k++) {
            if (!a.get(k).equals(b.get(k))) {
                return b.get(k).compareTo(a.get(k));
            }
        }
        return 0;
    };

    /** A growth: times by their four exponents. */
    static final class Growth {
        final TreeMap<List<Integer>, BigInteger> parts = new TreeMap<>(FALLING);

        void add(BigInteger often, List<Integer> exponents) {
            BigInteger together = parts.getOrDefault(exponents, ZERO).add(often);
            if (together.signum() == 0) {
                parts.remove(exponents);
            } else {
                parts.put(exponents, together);
            }
        }

        boolean fits() {
            boolean fits = parts.size() <= 20;
            for (Map.Entry<List<Integer>, BigInteger> part : parts.entrySet()) {
                fits &= part.getValue().abs().compareTo(BigInteger.valueOf(100000000)) <= 0;
                for (int e : part.getKey()) {
                    fits &= e >= -99 && e <= 99;
                }
            }
            return fits;
        }
    }

    static Growth add(Growth a, Growth b, int often) {
        Growth made = new Growth();
        a.parts.forEach((e, t) -> made.add(t, e));
        b.parts.forEach((e, t) -> made.add(t.multiply(BigInteger.valueOf(often)), e));
        return made;
    }

    static Growth multiply(Growth a, Growth b) {
        Growth made = new Growth();
        a.parts.forEach((e, t) -> b.parts.forEach((f, u) -> made.add(t.multiply(u),
                Arrays.asList(e.get(0) + f.get(0), e.get(1) + f.get(1), e.get(2) + f.get(2), e.get(3) + f.get(3)))));
        return made;
    }

    static Growth derivative(Growth a) {
        Growth made = new Growth();
        a.parts.forEach((e, t) -> {
            int exp = e.get(0), x = e.get(1), log = e.get(2), loglog = e.get(3);
            made.add(t.multiply(BigInteger.valueOf(exp)), Arrays.asList(exp, x, log, loglog));
            made.add(t.multiply(BigInteger.valueOf(x)), Arrays.asList(exp, x - 1, log, loglog));
            made.add(t.multiply(BigInteger.valueOf(log)), Arrays.asList(exp, x - 1, log - 1, loglog));
            made.add(t.multiply(BigInteger.valueOf(loglog)), Arrays.asList(exp, x - 1, log - 1, loglog - 1));
        });
        return made;
    }

    // ---- the face: each place holds null, an Ordinal, a Long or a Growth

    final Object[] places = new Object[16];

    private static void place(int... asked) {
        for (int place : asked) {
            index(place >= 0 && place < 16);
        }
    }

    private static void index(boolean right) {
        if (!right) {
            throw new IndexOutOfBoundsException();
        }
    }

    private static void argument(boolean right) {
        if (!right) {
            throw new IllegalArgumentException();
        }
    }

    private static void state(boolean right) {
        if (!right) {
            throw new IllegalStateException();
        }
    }

    private Ordinal ordinal(int place) {
        state(places[place] instanceof Ordinal);
        return (Ordinal) places[place];
    }

    private long shares(int place) {
        state(places[place] instanceof Long);
        return (Long) places[place];
    }

    private Growth growth(int place) {
        state(places[place] instanceof Growth);
        return (Growth) places[place];
    }

    private void keep(int place, Object made) {
        if (made instanceof Ordinal) {
            state(((Ordinal) made).fits());
        } else if (made instanceof Long) {
            state((Long) made % PART == 0 && Math.abs((Long) made) <= 256 * UNIT);
        } else {
            state(((Growth) made).fits());
        }
        places[place] = made;
    }

    public int kind(int place) {
        place(place);
        Object held = places[place];
        return held == null ? 0 : held instanceof Ordinal ? 1 : held instanceof Long ? 2 : 3;
    }

    public int clear(int place) {
        int kind = kind(place);
        places[place] = null;
        return kind;
    }

    public void finite(int place, int n) {
        place(place);
        argument(n >= 0 && n <= 1000000);
        places[place] = n == 0 ? new Ordinal() : new Ordinal().with(new Ordinal(), BigInteger.valueOf(n));
    }

    public void omega(int place, int exponent) {
        place(place, exponent);
        keep(place, new Ordinal().with(ordinal(exponent), ONE));
    }

    public void number(int place, int numerator, int power) {
        place(place);
        argument(power >= 0 && power <= 20);
        argument(Math.abs((long) numerator) <= 256L << power);
        places[place] = (long) numerator * (UNIT >> power);
    }

    public void signs(int place, int row, int length) {
        place(place);
        argument(length >= 0 && length <= 20 && row >= 0 && row < 1 << length);
        places[place] = ofSigns(row, length);
    }

    public void term(int place, int times, int exp, int x, int log, int loglog) {
        place(place);
        argument(times >= -1000000 && times <= 1000000);
        for (int e : new int[] {exp, x, log, loglog}) {
            argument(e >= -20 && e <= 20);
        }
        Growth made = new Growth();
        made.add(BigInteger.valueOf(times), Arrays.asList(exp, x, log, loglog));
        places[place] = made;
    }

    private int alike(int place, int one, int other) {
        place(place, one, other);
        state(kind(one) != 0 && kind(one) == kind(other));
        return kind(one);
    }

    public int sum(int place, int one, int other) {
        int kind = alike(place, one, other);
        keep(place, kind == 1 ? add(ordinal(one), ordinal(other))
                : kind == 2 ? (Object) (shares(one) + shares(other)) : add(growth(one), growth(other), 1));
        return kind;
    }

    public int product(int place, int one, int other) {
        int kind = alike(place, one, other);
        if (kind == 2) {
            BigInteger[] made = BigInteger.valueOf(shares(one)).multiply(BigInteger.valueOf(shares(other)))
                    .divideAndRemainder(BigInteger.valueOf(UNIT));
            state(made[1].signum() == 0 && made[0].bitLength() < 60);
            keep(place, made[0].longValue());
        } else {
            keep(place, kind == 1 ? multiply(ordinal(one), ordinal(other)) : multiply(growth(one), growth(other)));
        }
        return kind;
    }

    public int difference(int place, int one, int other) {
        int kind = alike(place, one, other);
        state(kind != 1);
        keep(place, kind == 2 ? (Object) (shares(one) - shares(other)) : add(growth(one), growth(other), -1));
        return kind;
    }

    public void natural(int place, int one, int other, boolean isProduct) {
        place(place, one, other);
        keep(place, isProduct ? naturalProduct(ordinal(one), ordinal(other)) : naturalSum(ordinal(one), ordinal(other)));
    }

    public void derive(int place, int one) {
        place(place, one);
        keep(place, derivative(growth(one)));
    }

    public int compare(int one, int other) {
        int kind = alike(one, one, other);
        if (kind == 1) {
            return order(ordinal(one), ordinal(other));
        }
        if (kind == 2) {
            return Long.compare(shares(one), shares(other));
        }
        Growth less = add(growth(one), growth(other), -1);
        return less.parts.isEmpty() ? 0 : less.parts.firstEntry().getValue().signum();
    }

    public void step(int place, int one, int n) {
        place(place, one);
        argument(n >= 1 && n <= 99);
        state(ordinal(one).size() > 0);
        keep(place, step(ordinal(one), n));
    }

    public int descent(int one, int n, int most) {
        place(one);
        argument(n >= 1 && n <= 99 && most >= 0 && most <= 2000);
        Ordinal now = ordinal(one);
        for (int steps = 0; steps < most; steps++) {
            if (now.size() == 0) {
                return steps;
            }
            now = step(now, n + steps);
            state(now.fits());
        }
        return now.size() == 0 ? most : -1;
    }

    public int powers(int one) {
        place(one);
        return ordinal(one).size();
    }

    public long times(int one, int k) {
        place(one);
        index(k >= 0);
        state(k < ordinal(one).size());
        return ordinal(one).times.get(k).longValue();
    }

    public void exponent(int place, int one, int k) {
        place(place, one);
        index(k >= 0);
        state(k < ordinal(one).size());
        places[place] = ordinal(one).exponents.get(k);
    }

    public int cut(int place, int lows, int highs) {
        place(place);
        argument(lows >= 0 && lows < 65536 && highs >= 0 && highs < 65536);
        long low = -1000 * UNIT, high = 1000 * UNIT;
        for (int k = 0; k < 16; k++) {
            if ((lows >> k & 1) == 1) {
                low = Math.max(low, shares(k));
            }
            if ((highs >> k & 1) == 1) {
                high = Math.min(high, shares(k));
            }
        }
        state(low < high);
        long made = simplest(low, high);
        keep(place, made);
        return birthdayOf(made);
    }

    public int birthday(int one) {
        place(one);
        return birthdayOf(shares(one));
    }

    public int signOf(int one, int k) {
        place(one);
        index(k >= 0);
        return signOf(shares(one), k);
    }

    public long parts(int one) {
        place(one);
        return shares(one) / PART;
    }

    public int tends(int one) {
        place(one);
        TreeMap<List<Integer>, BigInteger> parts = growth(one).parts;
        if (parts.isEmpty()) {
            return 0;
        }
        int order = FALLING.compare(Arrays.asList(0, 0, 0, 0), parts.firstKey());
        return order < 0 ? 0 : order == 0 ? 1 : parts.firstEntry().getValue().signum() > 0 ? 2 : 3;
    }

    public int terms(int one) {
        place(one);
        return growth(one).parts.size();
    }

    public long part(int one, int k, int what) {
        place(one);
        index(k >= 0);
        argument(what >= 0 && what <= 4);
        state(k < growth(one).parts.size());
        Map.Entry<List<Integer>, BigInteger> part = new ArrayList<>(growth(one).parts.entrySet()).get(k);
        return what == 0 ? part.getValue().longValue() : part.getKey().get(what - 1);
    }
}
