import java.util.HashSet;
import java.util.Set;

/** The boundary cases that the section 'Numbers' of the document names, sentence by sentence; numbers are told in parts. */
public final class NumberEdges {
    private static final Check C = new Check();
    private static final int ONE = Rooms.ONE;
    private static final long GREATEST = 256L * ONE;
    private static final int SUM = 0, DIFFERENCE = 1, PRODUCT = 2;
    private static final String[] NAMES = {"sum", "difference", "product"};
    private static final int SIMPLE = 8;

    public static void main(String[] args) {
        partsOfOne();
        sumsThatJustFit();
        differencesThatJustFit();
        productsThatJustFit();
        productsThatAreJustWhole();
        comparisons();
        signsMore();
        eachNumberHasOneRow();
        birthdaysAndSignsAtTheEnds();
        simplestOfAll();
        cutsAtTheEnds();
        cutsOfManyPlaces();
        cutsThatAreRefused();
        C.end("NumberEdges");
    }

    // ---- how the tests are told

    private static int reckon(Transseria x, int how, int place) {
        switch (how) {
            case SUM: return x.sum(place, 0, 1);
            case DIFFERENCE: return x.difference(place, 0, 1);
            default: return x.product(place, 0, 1);
        }
    }

    private static void is(int how, long one, long other, String want) {
        Making.is(C, NAMES[how] + " of " + one + " and " + other + " parts", () -> Rooms.withNumbers(one, other),
                (x, place) -> C.due("kind of a " + NAMES[how], reckon(x, how, place), Transseria.NUMBER), want, parts(one), parts(other));
    }

    private static void is(int how, long one, long other, long want) {
        is(how, one, other, parts(want));
    }

    private static void isRefused(int how, long one, long other) {
        is(how, one, other, Making.REFUSED);
    }

    private static String parts(long parts) {
        return parts + " parts";
    }

    /** All four ways to give both a sign. */
    private static void productIs(long one, long other, long want) {
        for (int sign : new int[] {1, -1}) {
            is(PRODUCT, sign * one, other, sign * want);
            is(PRODUCT, sign * other, -one, -sign * want);
        }
    }

    private static void productIsRefused(long one, long other) {
        for (int sign : new int[] {1, -1}) {
            isRefused(PRODUCT, sign * one, other);
            isRefused(PRODUCT, sign * other, -one);
        }
    }

    private static void signsMake(String row, long want) {
        Transseria x = new Transseria();
        int bits = 0;
        for (int k = 0; k < row.length(); k++) {
            bits |= row.charAt(k) == '+' ? 1 << k : 0;
        }
        x.signs(0, bits, row.length());
        C.due(row + " makes", x.parts(0), want);
        numberIs(x, 0, row);
    }

    private static void numberIs(Transseria x, int place, String row) {
        C.due(row + ": birthday", x.birthday(place), row.length());
        for (int k = 0; k < row.length(); k++) {
            C.due(row + ": sign " + k, x.signOf(place, k), row.charAt(k) == '+' ? 1 : -1);
        }
        C.due(row + ": no sign more", x.signOf(place, row.length()), 0);
        C.due(row + ": no last sign", x.signOf(place, Integer.MAX_VALUE), 0);
    }

    private static void cutIs(long low, long high, long want, int birthday) {
        for (int place : new int[] {2, 0, 1}) {
            Transseria x = Rooms.withNumbers(low, high);
            String what = "cut of " + low + " and " + high + " parts at " + place;
            C.due(what + ": birthday", x.cut(place, 1, 2), birthday);
            C.due(what, x.parts(place), want);
            Transseria y = Rooms.withNumbers(-low, -high);
            C.due(what + ", the other way: birthday", y.cut(place, 2, 1), birthday);
            C.due(what + ", the other way", y.parts(place), -want);
        }
    }

    private static void cutIsRefused(String what, Transseria x, int lows, int highs) {
        for (int place : new int[] {0, 1, 15}) {
            int kind = x.kind(place);
            String held = Rooms.text(x, place);
            C.noState(what, () -> x.cut(place, lows, highs));
            C.due(what + ": kind", x.kind(place), kind);
            C.text(what + ": it stays", Rooms.text(x, place), held);
        }
    }

    // ---- what fits

    /** "A number is a whole number of parts, of which 1048576 are 1; it FITS, if it is from -256 to 256." */
    private static void partsOfOne() {
        Transseria x = new Transseria();
        x.number(0, 1, 0);
        C.due("1", x.parts(0), 1048576);
        for (int power = 0; power <= 20; power++) {
            x.number(0, 1, power);
            C.due("1 by 2 to " + power, x.parts(0), ONE >> power);
            x.number(0, -1, power);
            C.due("-1 by 2 to " + power, x.parts(0), -(ONE >> power));
            x.number(0, 0, power);
            C.due("0 by 2 to " + power, x.parts(0), 0);
        }
    }

    private static void sumsThatJustFit() {
        for (int sign : new int[] {1, -1}) {
            is(SUM, sign * (GREATEST - 1), sign, sign * GREATEST);
            isRefused(SUM, sign * GREATEST, sign);
            isRefused(SUM, sign, sign * GREATEST);
            isRefused(SUM, sign * GREATEST, sign * GREATEST);
            is(SUM, sign * GREATEST / 2, sign * GREATEST / 2, sign * GREATEST);
            isRefused(SUM, sign * GREATEST / 2, sign * (GREATEST / 2 + 1));
            is(SUM, sign * GREATEST, -sign * GREATEST, 0);
            is(SUM, sign * GREATEST, 0, sign * GREATEST);
            is(SUM, sign * GREATEST, -sign, sign * (GREATEST - 1));
        }
        is(SUM, 0, 0, 0);
    }

    private static void differencesThatJustFit() {
        for (int sign : new int[] {1, -1}) {
            is(DIFFERENCE, sign * (GREATEST - 1), -sign, sign * GREATEST);
            isRefused(DIFFERENCE, sign * GREATEST, -sign);
            isRefused(DIFFERENCE, sign, -sign * GREATEST);
            is(DIFFERENCE, 0, sign * GREATEST, -sign * GREATEST);
            is(DIFFERENCE, sign * GREATEST, sign * GREATEST, 0);
            isRefused(DIFFERENCE, sign * GREATEST, -sign * GREATEST);
            is(DIFFERENCE, sign * GREATEST, 0, sign * GREATEST);
        }
        is(DIFFERENCE, 0, 0, 0);
    }

    private static void productsThatJustFit() {
        productIs(16 * ONE, 16 * ONE, GREATEST);
        productIsRefused(16 * ONE, 16 * ONE + 1);
        productIs(GREATEST, ONE, GREATEST);
        productIsRefused(GREATEST, ONE + 1);
        productIs(GREATEST, ONE - 1, GREATEST - 256);
        productIsRefused(GREATEST, GREATEST);
        productIs(GREATEST, 1, 256);
        productIs(GREATEST, 0, 0);
        productIs(2 * ONE, GREATEST / 2, GREATEST);
        productIsRefused(2 * ONE, GREATEST / 2 + 1);
        is(PRODUCT, 0, 0, 0);
    }

    /** "or, of numbers, is no whole number of parts" */
    private static void productsThatAreJustWhole() {
        productIs(1024, 1024, 1);
        productIsRefused(1024, 512);
        productIsRefused(1, 1);
        productIsRefused(1, ONE / 2);
        productIsRefused(1, ONE - 1);
        productIs(1, ONE, 1);
        productIs(2, ONE / 2, 1);
        productIs(3, 5 * ONE, 15);
        productIsRefused(3, ONE / 2);
        productIs(6, ONE / 4 * 6, 9);
        productIs(1, 0, 0);
        productIsRefused(GREATEST - 1, 1);
        productIsRefused(GREATEST - 1, ONE / 2);
    }

    private static void comparisons() {
        long[] rising = {-GREATEST, 1 - GREATEST, -1, 0, 1, ONE, GREATEST - 1, GREATEST};
        Transseria x = Rooms.withNumbers(rising);
        for (int one = 0; one < rising.length; one++) {
            for (int other = 0; other < rising.length; other++) {
                C.due(rising[one] + " and " + rising[other], x.compare(one, other), Integer.compare(one, other));
            }
        }
        x.number(8, 0, 20);
        C.due("0 made twice", x.compare(3, 8), 0);
    }

    // ---- signs

    /** "1 more, or 1 less, if there are none of those (what it went past are the numbers of its signs ahead, 0 with them)" */
    private static void signsMore() {
        signsMake("", 0);
        signsMake("+", ONE);
        signsMake("-", -ONE);
        signsMake("++", 2 * ONE);
        signsMake("--", -2 * ONE);
        signsMake("+-", ONE / 2);
        signsMake("-+", -ONE / 2);
        signsMake("+-+", 3 * ONE / 4);
        signsMake("-+-", -3 * ONE / 4);
        signsMake("+--", ONE / 4);
        signsMake("++-", 3 * ONE / 2);
        signsMake("--+", -3 * ONE / 2);
        signsMake("++--", 5 * ONE / 4);
        signsMake("+++-+", 2 * ONE + 3 * ONE / 4);
        signsMake("+-+-", 5 * ONE / 8);
        signsMake("-+-+", -5 * ONE / 8);
        signsMake("+".repeat(20), 20 * ONE);
        signsMake("-".repeat(20), -20 * ONE);
        signsMake("+" + "-".repeat(19), 2);
        signsMake("-" + "+".repeat(19), -2);
        signsMake("+-" + "+".repeat(18), ONE - 2);
    }

    /** "Each number has one row of signs; its birthday is how many they are." */
    private static void eachNumberHasOneRow() {
        Set<Long> made = new HashSet<>();
        for (int length = 0; length <= 7; length++) {
            Transseria x = new Transseria();
            for (int row = 0; row < 1 << length; row++) {
                x.signs(0, row, length);
                C.right("row " + row + " of " + length + " makes a number of its own", made.add(x.parts(0)));
                C.due("row " + row + " of " + length + ": birthday", x.birthday(0), length);
                if (length > 0) {
                    C.due("row " + row + " of " + length + ": the last sign", x.signOf(0, length - 1), row >> length - 1 == 1 ? 1 : -1);
                }
            }
        }
    }

    private static void birthdaysAndSignsAtTheEnds() {
        numberIs(Rooms.withNumbers(GREATEST), 0, "+".repeat(256));
        numberIs(Rooms.withNumbers(-GREATEST), 0, "-".repeat(256));
        numberIs(Rooms.withNumbers(GREATEST - ONE / 2), 0, "+".repeat(256) + "-");
        numberIs(Rooms.withNumbers(ONE / 2 - GREATEST), 0, "-".repeat(256) + "+");
        numberIs(Rooms.withNumbers(GREATEST - 1), 0, "+".repeat(256) + "-" + "+".repeat(19));
        numberIs(Rooms.withNumbers(1 - GREATEST), 0, "-".repeat(256) + "+" + "-".repeat(19));
        Transseria y = Rooms.withNumbers(1, -1, 0, 2);
        numberIs(y, 0, "+" + "-".repeat(20));
        numberIs(y, 1, "-" + "+".repeat(20));
        numberIs(y, 2, "");
        numberIs(y, 3, "+" + "-".repeat(19));
    }

    // ---- cuts

    /** "The simplest number with a property is the one with the earliest birthday": of all pairs of early ones, by looking at all. */
    private static void simplestOfAll() {
        long[] early = new long[(1 << SIMPLE) - 1];
        int count = 0;
        for (int length = 0; length < SIMPLE; length++) {
            Transseria x = new Transseria();
            for (int row = 0; row < 1 << length; row++) {
                x.signs(0, row, length);
                early[count++] = x.parts(0);
            }
        }
        // Any two of the first 63 have one of the 255 between them.
        for (int one = 0; one < 63; one++) {
            for (int other = 0; other < 63; other++) {
                if (early[one] < early[other]) {
                    simplestBetween(early, early[one], early[other]);
                }
            }
        }
    }

    /** The rows stand by their lengths, so that the first one between is the simplest. */
    private static void simplestBetween(long[] early, long low, long high) {
        int k = 0;
        while (early[k] <= low || early[k] >= high) {
            k++;
        }
        Transseria x = Rooms.withNumbers(low, high);
        C.due("birthday between " + low + " and " + high, x.cut(2, 1, 2), 31 - Integer.numberOfLeadingZeros(k + 1));
        C.due("between " + low + " and " + high, x.parts(2), early[k]);
    }

    private static void cutsAtTheEnds() {
        Transseria x = new Transseria();
        C.due("of none", x.cut(0, 0, 0), 0);
        C.due("of none: 0", x.parts(0), 0);
        for (int sign : new int[] {1, -1}) {
            farCutIs(-sign, sign, 0, 0);
            farCutIs(0, sign, sign * ONE, 1);
            farCutIs(sign * ONE, sign, sign * 2 * ONE, 2);
            farCutIs(sign * (ONE - 1), sign, sign * ONE, 1);
            farCutIs(sign * 255 * ONE, sign, sign * GREATEST, 256);
            farCutIs(sign * (GREATEST - 1), sign, sign * GREATEST, 256);
        }
        cutIs(-1, 1, 0, 0);
        cutIs(0, ONE, ONE / 2, 2);
        cutIs(0, ONE + 1, ONE, 1);
        cutIs(0, 2, 1, 21);
        cutIs(0, 3, 2, 20);
        cutIs(1, 3, 2, 20);
        cutIs(ONE, ONE + 2, ONE + 1, 22);
        cutIs(255L * ONE, GREATEST, GREATEST - ONE / 2, 257);
        cutIs(255L * ONE - 1, GREATEST, 255L * ONE, 255);
        cutIs(GREATEST - 2, GREATEST, GREATEST - 1, 276);
        cutIs(-GREATEST, GREATEST, 0, 0);
        cutIs(0, GREATEST, ONE, 1);
    }

    /** Above one number, or below it where the sign is -1; the place itself holds that number. */
    private static void farCutIs(long bound, int sign, long want, int birthday) {
        Transseria x = Rooms.withNumbers(bound);
        String what = "beyond " + bound + " parts, " + sign;
        C.due(what + ": birthday", sign > 0 ? x.cut(0, 1, 0) : x.cut(0, 0, 1), birthday);
        C.due(what, x.parts(0), want);
    }

    private static void cutsOfManyPlaces() {
        Transseria x = new Transseria();
        for (int k = 0; k < 16; k++) {
            x.number(k, (k * 7 % 16) - 4, 0);
        }
        C.due("above all", x.cut(0, 65535, 0), 12);
        C.due("above all", x.parts(0), 12L * ONE);
        C.due("below all", x.cut(15, 0, 65535), 4);
        C.due("below all", x.parts(15), -4L * ONE);
        Transseria y = Rooms.withNumbers(0, ONE, -3 * ONE, 4 * ONE, 3 * ONE, 9L * ONE);
        C.due("between the greatest low and the least high", y.cut(6, 7, 56), 2);
        C.due("between them", y.parts(6), 2L * ONE);
        y.number(15, 5, 1);
        C.due("with the last place a low", y.cut(7, 7 | 1 << 15, 40), 3);
        C.due("with the last place a low", y.parts(7), 3L * ONE);
        y.number(15, 3, 1);
        C.due("with the last place a high", y.cut(7, 7, 56 | 1 << 15), 4);
        C.due("with the last place a high", y.parts(7), 5L * ONE / 4);
    }

    /** "or one of the former is not below each of the latter, or the simplest one does not FIT, or is no whole number of parts" */
    private static void cutsThatAreRefused() {
        Transseria x = Rooms.withNumbers(GREATEST, -GREATEST, GREATEST - 1, 1 - GREATEST, 0, 1, ONE, 0);
        cutIsRefused("above 256", x, 1, 0);
        cutIsRefused("below -256", x, 0, 2);
        cutIsRefused("none between the last two", x, 4, 1);
        cutIsRefused("none between the first two", x, 2, 8);
        cutIsRefused("none between 0 and a part", x, 16, 32);
        cutIsRefused("the same place", x, 16, 16);
        cutIsRefused("the same number", x, 16, 128);
        cutIsRefused("the wrong way", x, 64, 16);
        cutIsRefused("one low the wrong way", x, 2 | 64, 16 | 1);
        cutIsRefused("one high the wrong way", x, 2 | 16, 64 | 8);
        cutIsRefused("all on both sides", x, 255, 255);
        C.due("what does fit is made", x.cut(15, 2, 1), 0);
        for (int held = 0; held < 3; held++) {
            Transseria y = Rooms.withNumbers(0, ONE);
            int place = 3 + held;
            y.finite(3, 1);
            y.term(4, 1, 0, 0, 0, 0);
            cutIsRefused("no number among the lows", y, 1 | 1 << place, 2);
            cutIsRefused("no number alone among the lows", y, 1 << place, 0);
            cutIsRefused("no number among the highs", y, 1, 2 | 1 << place);
            cutIsRefused("no number alone among the highs", y, 0, 1 << place);
        }
    }
}
