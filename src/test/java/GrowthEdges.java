/** The boundary cases that the section 'Growths' of the document names, sentence by sentence. */
public final class GrowthEdges {
    private static final Check C = new Check();
    private static final String REFUSED = Making.REFUSED;
    private static final int SUM = 0, DIFFERENCE = 1, PRODUCT = 2;
    private static final String[] NAMES = {"sum", "difference", "product"};
    private static final int MOST_TIMES = 100000000;

    public static void main(String[] args) {
        zero();
        zeroWhereAGrowthStood();
        reckonedWhereMoreStood();
        partsInTheirOrder();
        partsThatAreGone();
        partsThatJustFit();
        timesThatJustFit();
        exponentsThatJustFit();
        manyPartsOnTheWay();
        greatTimesOnTheWay();
        comparisons();
        derivatives();
        derivativesThatJustFit();
        derivativesThatAreMoreOnTheWay();
        limits();
        C.end("GrowthEdges");
    }

    // ---- how the tests are told

    private static int reckon(Transseria x, int how, int place, int one, int other) {
        switch (how) {
            case SUM: return x.sum(place, one, other);
            case DIFFERENCE: return x.difference(place, one, other);
            default: return x.product(place, one, other);
        }
    }

    private static void is(int how, String one, String other, String want) {
        Making.is(C, NAMES[how] + " of " + one + " and " + other, () -> Rooms.withGrowths(one, other),
                (x, place) -> C.due("kind of a " + NAMES[how], reckon(x, how, place, 0, 1), Transseria.GROWTH), want, one, other);
    }

    private static void bothWays(int how, String one, String other, String want) {
        is(how, one, other, want);
        is(how, other, one, want);
    }

    private static void ofItself(int how, String one, String want) {
        Transseria x = Rooms.withGrowths(one);
        reckon(x, how, 0, 0, 0);
        C.text(NAMES[how] + " of " + one + " and itself", Rooms.text(x, 0), want);
    }

    private static void slopeIs(String of, String want) {
        Making.is(C, "derivative of " + of, () -> Rooms.withGrowths(of), (x, place) -> x.derive(place, 0), want, of);
    }

    private static void less(String one, String other) {
        Transseria x = Rooms.withGrowths(one, other, one);
        C.due(one + " is less than " + other, x.compare(0, 1), -1);
        C.due(other + " is greater than " + one, x.compare(1, 0), 1);
        C.due(one + " is itself", x.compare(0, 0), 0);
        C.due(one + " is the same, made twice", x.compare(0, 2), 0);
    }

    private static void tends(String growth, int want) {
        Transseria x = Rooms.withGrowths(growth);
        C.due(growth + " tends", x.tends(0), want);
    }

    /** A part of so many times with one exponent, that of a number from 1 to 4, the others 0. */
    private static String part(int times, int what, int exponent) {
        StringBuilder text = new StringBuilder().append(times);
        for (int k = 1; k <= 4; k++) {
            text.append(k == 1 ? ":" : ",").append(k == what ? exponent : 0);
        }
        return text.toString();
    }

    // ---- what a growth is

    /** "it has none if it is 0" */
    private static void zero() {
        Transseria x = new Transseria();
        x.term(0, 0, 20, -20, 20, -20);
        C.due("0 is a growth", x.kind(0), Transseria.GROWTH);
        C.due("0 has no part", x.terms(0), 0);
        C.noState("0 has no first part", () -> x.part(0, 0, 0));
        C.due("0 vanishes", x.tends(0), Transseria.VANISHES);
        C.due("0 is 0", x.compare(0, 0), 0);
        x.derive(0, 0);
        C.due("the derivative of 0", x.terms(0), 0);
        for (String one : new String[] {"0", "1:0,0,0,0", "-5:1,2,3,4 7:0,0,0,0", Rooms.powersOfX(1, 1, 20), MOST_TIMES + ":99,-99,99,-99"}) {
            bothWays(SUM, one, "0", one);
            is(DIFFERENCE, one, "0", one);
            bothWays(PRODUCT, one, "0", "0");
            bothWays(PRODUCT, one, "1:0,0,0,0", one);
            ofItself(DIFFERENCE, one, "0");
        }
        is(DIFFERENCE, "0", "-5:1,2,3,4 7:0,0,0,0", "5:1,2,3,4 -7:0,0,0,0");
        is(DIFFERENCE, "0", MOST_TIMES + ":0,0,0,0", -MOST_TIMES + ":0,0,0,0");
        ofItself(SUM, "0", "0");
        ofItself(PRODUCT, "0", "0");
        ofItself(PRODUCT, "1:0,1,0,0 -1:0,0,0,0", "1:0,2,0,0 -2:0,1,0,0 1:0,0,0,0");
    }

    /** What a place held before is gone, also where nothing of it is written over. */
    private static void zeroWhereAGrowthStood() {
        for (int way = 0; way < 4; way++) {
            Transseria x = Rooms.withGrowths("5:1,0,0,0 -3:0,1,0,0", "0");
            switch (way) {
                case 0: x.term(0, 0, 1, 0, 0, 0); break;
                case 1: x.difference(0, 0, 0); break;
                case 2: x.product(0, 0, 1); break;
                default: x.term(0, 7, 0, 0, 0, 0); x.derive(0, 0);
            }
            C.due("0 has no part, by way " + way, x.terms(0), 0);
            C.noState("0 has no first part, by way " + way, () -> x.part(0, 0, 0));
            C.due("0 vanishes, by way " + way, x.tends(0), Transseria.VANISHES);
            C.due("0 is 0, by way " + way, x.compare(0, 1), 0);
            x.sum(2, 0, 0);
            C.due("0 and 0, by way " + way, x.terms(2), 0);
        }
        Transseria y = Rooms.withGrowths("5:1,0,0,0 -3:0,1,0,0");
        y.term(0, 2, 0, 0, 0, 0);
        C.due("one part where two stood", y.terms(0), 1);
        C.noState("its second part", () -> y.part(0, 1, 0));
        C.due("its limit", y.tends(0), Transseria.SETTLES);
    }

    /** Both places held more parts: what is reckoned of them is what is reckoned of the same in new places. */
    private static void reckonedWhereMoreStood() {
        Transseria x = Rooms.withGrowths("5:2,0,0,0 -3:0,1,0,0 4:0,0,0,-1", "7:3,0,0,0 6:0,2,0,0 9:0,0,-1,0");
        Rooms.growth(x, 0, "2:0,1,0,0");
        Rooms.growth(x, 1, "3:0,0,1,0");
        x.sum(2, 0, 1);
        C.text("sum", Rooms.text(x, 2), "2:0,1,0,0 3:0,0,1,0");
        x.difference(2, 0, 1);
        C.text("difference", Rooms.text(x, 2), "2:0,1,0,0 -3:0,0,1,0");
        x.product(2, 0, 1);
        C.text("product", Rooms.text(x, 2), "6:0,1,1,0");
        x.product(2, 1, 0);
        C.text("product the other way", Rooms.text(x, 2), "6:0,1,1,0");
        x.derive(2, 0);
        C.text("derivative", Rooms.text(x, 2), "2:0,0,0,0");
        C.due("comparison", x.compare(0, 1), 1);
        Rooms.growth(x, 1, "2:0,1,0,0");
        C.due("comparison of the same", x.compare(0, 1), 0);
    }

    /** "Parts are ordered by falling exponents, of exp x first, of the same by those of x, and so on." */
    private static void partsInTheirOrder() {
        String[] falling = {"1:1,-9,-9,-9", "1:0,1,-9,-9", "1:0,0,1,-9", "1:0,0,0,1", "1:0,0,0,0", "1:0,0,0,-1", "1:0,0,-1,9", "1:0,-1,9,9", "1:-1,9,9,9"};
        for (int one = 0; one < falling.length; one++) {
            for (int other = one + 1; other < falling.length; other++) {
                bothWays(SUM, falling[one], falling[other], falling[one] + " " + falling[other]);
            }
        }
        is(SUM, "1:99,0,0,0 1:-99,0,0,0", "1:0,99,0,0 1:0,-99,0,0", "1:99,0,0,0 1:0,99,0,0 1:0,-99,0,0 1:-99,0,0,0");
        is(SUM, "1:0,0,99,0 1:0,0,-99,0", "1:0,0,0,99 1:0,0,0,-99", "1:0,0,99,0 1:0,0,0,99 1:0,0,0,-99 1:0,0,-99,0");
        is(SUM, "1:1,-99,-99,-99", "1:0,99,99,99", "1:1,-99,-99,-99 1:0,99,99,99");
    }

    /** "each a whole number, not 0, of times"; "No two parts have the same four exponents" */
    private static void partsThatAreGone() {
        is(SUM, "3:1,2,3,4", "4:1,2,3,4", "7:1,2,3,4");
        is(SUM, "3:1,2,3,4", "-3:1,2,3,4", "0");
        is(SUM, "1:1,0,0,0 3:0,2,3,4 1:-1,0,0,0", "5:1,0,0,0 -3:0,2,3,4", "6:1,0,0,0 1:-1,0,0,0");
        is(DIFFERENCE, "3:1,2,3,4", "4:1,2,3,4", "-1:1,2,3,4");
        is(DIFFERENCE, "3:1,2,3,4 5:0,0,0,0", "3:1,2,3,4", "5:0,0,0,0");
        bothWays(PRODUCT, "1:0,1,0,0 1:0,0,0,0", "1:0,1,0,0 -1:0,0,0,0", "1:0,2,0,0 -1:0,0,0,0");
        bothWays(PRODUCT, "2:1,2,3,4", "-3:-1,-2,-3,-4", "-6:0,0,0,0");
    }

    // ---- what fits

    /** "at most 20 parts" */
    private static void partsThatJustFit() {
        String twenty = Rooms.powersOfX(1, 1, 20);
        bothWays(SUM, twenty, "1:0,0,0,0", REFUSED);
        bothWays(SUM, Rooms.powersOfX(1, 1, 19), "1:0,0,0,0", Rooms.powersOfX(1, 0, 19));
        bothWays(SUM, twenty, twenty, Rooms.powersOfX(2, 1, 20));
        bothWays(SUM, twenty, "1:0,0,0,0 -1:0,-1,0,0", REFUSED);
        bothWays(SUM, twenty, "-1:0,1,0,0 1:0,0,0,0", Rooms.powersOfX(1, 2, 20) + " 1:0,0,0,0");
        is(DIFFERENCE, twenty, "1:0,0,0,0", REFUSED);
        is(DIFFERENCE, twenty, "1:0,20,0,0 1:0,0,0,0", Rooms.powersOfX(1, 1, 19) + " -1:0,0,0,0");
        is(DIFFERENCE, "0", twenty, Rooms.powersOfX(-1, 1, 20));
        bothWays(PRODUCT, "1:0,0,3,0 1:0,0,2,0 1:0,0,1,0 1:0,0,0,0", Rooms.powersOfX(1, 0, 4), fourByFive());
        bothWays(PRODUCT, "1:0,0,2,0 1:0,0,1,0 1:0,0,0,0", Rooms.powersOfX(1, 0, 6), REFUSED);
        bothWays(PRODUCT, twenty, "1:0,1,0,0", Rooms.powersOfX(1, 2, 21));
        bothWays(PRODUCT, twenty, "1:0,1,0,0 1:0,0,0,0", REFUSED);
        bothWays(PRODUCT, Rooms.powersOfX(1, 1, 19), "1:0,1,0,0 1:0,0,0,0", "1:0,20,0,0 " + Rooms.powersOfX(2, 2, 19) + " 1:0,1,0,0");
        is(PRODUCT, twenty, twenty, REFUSED);
    }

    private static String fourByFive() {
        StringBuilder text = new StringBuilder();
        for (int x = 4; x >= 0; x--) {
            for (int log = 3; log >= 0; log--) {
                text.append(text.length() > 0 ? " " : "").append("1:0," + x + "," + log + ",0");
            }
        }
        return text.toString();
    }

    /** "the times from -100000000 to 100000000" */
    private static void timesThatJustFit() {
        for (int sign : new int[] {1, -1}) {
            String most = sign * MOST_TIMES + ":0,1,0,0";
            String next = sign * (MOST_TIMES - 1) + ":0,1,0,0";
            String more = sign + ":0,1,0,0";
            String less = -sign + ":0,1,0,0";
            bothWays(SUM, next, more, most);
            bothWays(SUM, most, more, REFUSED);
            bothWays(SUM, most, less, next);
            bothWays(SUM, most, most, REFUSED);
            is(DIFFERENCE, next, less, most);
            is(DIFFERENCE, most, less, REFUSED);
            is(DIFFERENCE, most, more, next);
            is(DIFFERENCE, most, -sign * MOST_TIMES + ":0,1,0,0", REFUSED);
            bothWays(PRODUCT, sign * 10000 + ":0,0,1,0", "10000:0,0,2,0", sign * MOST_TIMES + ":0,0,3,0");
            bothWays(PRODUCT, sign * 10001 + ":0,0,1,0", "10000:0,0,2,0", REFUSED);
            bothWays(PRODUCT, sign * MOST_TIMES + ":0,0,1,0", "-1:0,0,0,0", -sign * MOST_TIMES + ":0,0,1,0");
            bothWays(PRODUCT, sign * MOST_TIMES + ":0,0,1,0", "2:0,0,0,0", REFUSED);
            is(PRODUCT, sign * MOST_TIMES + ":0,0,1,0", MOST_TIMES + ":0,0,1,0", REFUSED);
        }
        // A part that fits ahead of one that does not, and the other way.
        bothWays(SUM, "1:0,1,0,0 " + MOST_TIMES + ":0,0,0,0", "1:0,1,0,0 1:0,0,0,0", REFUSED);
        bothWays(SUM, MOST_TIMES + ":0,1,0,0 1:0,0,0,0", "1:0,1,0,0 1:0,0,0,0", REFUSED);
    }

    /** "the exponents from -99 to 99", of each of the four powers */
    private static void exponentsThatJustFit() {
        for (int what = 1; what <= 4; what++) {
            for (int sign : new int[] {1, -1}) {
                bothWays(PRODUCT, part(1, what, sign * 50), part(2, what, sign * 49), part(2, what, sign * 99));
                bothWays(PRODUCT, part(1, what, sign * 50), part(2, what, sign * 50), REFUSED);
                bothWays(PRODUCT, part(1, what, sign * 99), part(2, what, sign), REFUSED);
                bothWays(PRODUCT, part(1, what, sign * 99), part(2, what, -sign), part(2, what, sign * 98));
                bothWays(PRODUCT, part(1, what, sign * 99), part(2, what, -sign * 99), "2:0,0,0,0");
                is(PRODUCT, part(1, what, sign * 99), part(2, what, sign * 99), REFUSED);
            }
        }
        bothWays(PRODUCT, "1:99,99,99,99", "1:-99,-99,-99,-99", "1:0,0,0,0");
        bothWays(PRODUCT, "1:99,-99,99,-99", "1:-99,99,-99,99", "1:0,0,0,0");
        bothWays(PRODUCT, "1:0,1,0,0 1:0,-99,0,0", "1:0,0,1,0 1:0,0,-1,0", "1:0,1,1,0 1:0,1,-1,0 1:0,-99,1,0 1:0,-99,-1,0");
        bothWays(PRODUCT, "1:0,1,0,0 1:0,-99,0,0", "1:0,-1,0,0", REFUSED);
        bothWays(PRODUCT, "1:0,99,0,0 1:0,-1,0,0", "1:0,1,0,0", REFUSED);
    }

    /** "that is asked of what is made alone, not of what it is made by on the way" */
    private static void manyPartsOnTheWay() {
        bothWays(SUM, Rooms.powersOfX(1, 0, 19), Rooms.powersOfX(-1, 0, 19), "0");
        bothWays(SUM, Rooms.powersOfX(1, 1, 20), Rooms.powersOfX(1, 11, 20).replace("1:", "-1:"), Rooms.powersOfX(1, 1, 10));
        bothWays(SUM, Rooms.powersOfX(1, 0, 19), Rooms.powersOfX(1, 20, 29) + " " + Rooms.powersOfX(-1, 0, 9), Rooms.powersOfX(1, 10, 29));
        bothWays(SUM, Rooms.powersOfX(1, 0, 19), Rooms.powersOfX(-1, 10, 19) + " " + Rooms.powersOfX(1, -10, -1),
                Rooms.powersOfX(1, 0, 9) + " " + Rooms.powersOfX(1, -10, -1));
        is(DIFFERENCE, Rooms.powersOfX(1, 0, 19), Rooms.powersOfX(-1, 20, 29) + " " + Rooms.powersOfX(1, 0, 9), Rooms.powersOfX(1, 10, 29));
        // Twenty by two, of which all but two are gone; and ten by ten, nineteen in the end.
        bothWays(PRODUCT, Rooms.powersOfX(1, 0, 19), "1:0,1,0,0 -1:0,0,0,0", "1:0,20,0,0 -1:0,0,0,0");
        Transseria x = Rooms.withGrowths(Rooms.powersOfX(1, 0, 9), Rooms.powersOfX(1, 0, 10));
        x.product(2, 0, 0);
        C.due("ten by ten", x.terms(2), 19);
        x.product(2, 0, 1);
        C.due("ten by eleven", x.terms(2), 20);
        C.noState("eleven by eleven", () -> x.product(2, 1, 1));
        C.due("ten by eleven stays", x.terms(2), 20);
    }

    /** (x^2 + 10001 x + 15000)(x^2 - 10001 x + 5100): 10001 squared is too many times, and 20100 less is not. */
    private static void greatTimesOnTheWay() {
        String one = "1:0,2,0,0 10001:0,1,0,0 15000:0,0,0,0";
        String other = "1:0,2,0,0 -10001:0,1,0,0 5100:0,0,0,0";
        bothWays(PRODUCT, one, other, "1:0,4,0,0 -99999901:0,2,0,0 -99009900:0,1,0,0 76500000:0,0,0,0");
        bothWays(PRODUCT, one.replace("10001", "-10001"), other.replace("-10001", "10001"),
                "1:0,4,0,0 -99999901:0,2,0,0 99009900:0,1,0,0 76500000:0,0,0,0");
        bothWays(PRODUCT, "1:0,2,0,0 10001:0,1,0,0 10000:0,0,0,0", "1:0,2,0,0 -10001:0,1,0,0 10000:0,0,0,0", REFUSED);
    }

    // ---- comparison

    /** "if the first part of the one less the other one is above 0" */
    private static void comparisons() {
        less("0", "1:0,0,0,0");
        less("-1:0,0,0,0", "0");
        less("0", "1:-99,-99,-99,-99");
        less("-1:-99,-99,-99,-99", "0");
        less("-1:99,0,0,0", -MOST_TIMES + ":0,99,99,99");
        less(MOST_TIMES + ":0,99,99,99", "1:1,-99,-99,-99");
        less(MOST_TIMES + ":0,0,99,99", "1:0,1,-99,-99");
        less(MOST_TIMES + ":0,0,0,99", "1:0,0,1,-99");
        less(MOST_TIMES + ":0,0,0,0", "1:0,0,0,1");
        less(MOST_TIMES + ":0,0,0,-1", "1:0,0,0,0");
        less(MOST_TIMES - 1 + ":3,0,0,0", MOST_TIMES + ":3,0,0,0");
        less("1:0,1,0,0", "1:0,1,0,0 1:0,0,0,-99");
        less("1:0,1,0,0 -1:0,0,0,-99", "1:0,1,0,0");
        less("1:0,1,0,0 -5:0,0,0,0", "1:0,1,0,0 -4:0,0,0,0");
        less("1:0,1,0,0 5:0,0,0,0", "1:0,1,0,0 1:0,0,0,1");
        less("1:0,1,0,0 -1:0,0,0,1", "1:0,1,0,0 -5:0,0,0,0");
        less("1:0,1,0,0 5:0,0,0,0", "2:0,1,0,0 -5:0,0,0,0");
        less("-1:1,0,0,0 9:0,1,0,0", "-1:1,0,0,0 9:0,1,0,0 1:0,0,0,0");
        less(Rooms.powersOfX(1, 1, 20), Rooms.powersOfX(1, 2, 20) + " 2:0,1,0,0");
        less(Rooms.powersOfX(1, 2, 20), Rooms.powersOfX(1, 1, 20));
    }

    // ---- derivatives

    /** "as many times as its own times the exponent of each power, that of exp x with its own exponents; .." */
    private static void derivatives() {
        slopeIs("0", "0");
        slopeIs("7:0,0,0,0", "0");
        slopeIs("7:3,0,0,0", "21:3,0,0,0");
        slopeIs("7:0,3,0,0", "21:0,2,0,0");
        slopeIs("7:0,0,3,0", "21:0,-1,2,0");
        slopeIs("7:0,0,0,3", "21:0,-1,-1,2");
        slopeIs("7:0,1,0,0", "7:0,0,0,0");
        slopeIs("7:0,0,1,0", "7:0,-1,0,0");
        slopeIs("7:0,0,0,1", "7:0,-1,-1,0");
        slopeIs("7:-1,-1,-1,-1", "-7:-1,-1,-1,-1 -7:-1,-2,-1,-1 -7:-1,-2,-2,-1 -7:-1,-2,-2,-2");
        slopeIs("1:2,3,4,5", "2:2,3,4,5 3:2,2,4,5 4:2,2,3,5 5:2,2,3,4");
        slopeIs("1:0,1,1,0 -1:0,1,0,0", "1:0,0,1,0");
        slopeIs("1:0,2,0,0 3:0,1,0,0 5:0,0,0,0", "2:0,1,0,0 3:0,0,0,0");
        slopeIs("1:1,1,0,0 -1:1,0,0,0", "1:1,1,0,0");
        slopeIs("1:0,0,1,1 -1:0,0,1,0", "1:0,-1,0,1");
    }

    private static void derivativesThatJustFit() {
        for (int sign : new int[] {1, -1}) {
            for (int what = 1; what <= 4; what++) {
                slopeIs(part(sign * 50000001, what, 2), REFUSED);
                slopeIs(part(sign * 50000001, what, -2), REFUSED);
                slopeIs(part(sign * 1010102, what, 99), REFUSED);
            }
            slopeIs(part(sign * 1010101, 1, 99), part(sign * 99999999, 1, 99));
            slopeIs(part(sign * 1010101, 2, 99), part(sign * 99999999, 2, 98));
            slopeIs(part(sign * 50000000, 1, 2), part(sign * MOST_TIMES, 1, 2));
            slopeIs(part(sign * 50000000, 2, -2), part(-sign * MOST_TIMES, 2, -3));
            slopeIs(part(sign * MOST_TIMES, 2, 1), part(sign * MOST_TIMES, 2, 0));
        }
        slopeIs("1:99,0,0,0", "99:99,0,0,0");
        slopeIs("1:-99,0,0,0", "-99:-99,0,0,0");
        slopeIs("1:0,99,0,0", "99:0,98,0,0");
        slopeIs("1:0,-98,0,0", "-98:0,-99,0,0");
        slopeIs("1:0,-99,0,0", REFUSED);
        slopeIs("1:1,-99,0,0", REFUSED);
        slopeIs("1:0,-98,-98,0", "-98:0,-99,-98,0 -98:0,-99,-99,0");
        slopeIs("1:0,0,-98,0", "-98:0,-1,-99,0");
        slopeIs("1:0,0,-99,0", REFUSED);
        slopeIs("1:0,0,-98,-98", "-98:0,-1,-99,-98 -98:0,-1,-99,-99");
        slopeIs("1:0,0,-99,1", REFUSED);
        slopeIs("1:0,0,0,-98", "-98:0,-1,-1,-99");
        slopeIs("1:0,0,0,-99", REFUSED);
        slopeIs("1:0,-98,-98,-98", "-98:0,-99,-98,-98 -98:0,-99,-99,-98 -98:0,-99,-99,-99");
        slopeIs("1:0,5,0,0 1:0,-99,0,0", REFUSED);
        slopeIs(Rooms.powersOfX(1, -10, 9), "9:0,8,0,0 8:0,7,0,0 7:0,6,0,0 6:0,5,0,0 5:0,4,0,0 4:0,3,0,0 3:0,2,0,0 2:0,1,0,0 1:0,0,0,0 "
                + "-1:0,-2,0,0 -2:0,-3,0,0 -3:0,-4,0,0 -4:0,-5,0,0 -5:0,-6,0,0 -6:0,-7,0,0 -7:0,-8,0,0 -8:0,-9,0,0 -9:0,-10,0,0 -10:0,-11,0,0");
        fivesOfFourParts();
    }

    /** Five growths of one part, each with four parts in its derivative, are just enough; one more part is too much. */
    private static void fivesOfFourParts() {
        StringBuilder text = new StringBuilder();
        for (int exp = 5; exp >= 1; exp--) {
            text.append(exp < 5 ? " " : "").append("1:" + exp + ",9,9,9");
        }
        Transseria x = Rooms.withGrowths(text.toString(), text + " 1:0,1,0,0");
        x.derive(2, 0);
        C.due("five times four parts", x.terms(2), 20);
        C.noState("and one", () -> x.derive(2, 1));
        C.due("they stay", x.terms(2), 20);
    }

    /** "that is asked of what is made alone, not of what it is made by on the way" */
    private static void derivativesThatAreMoreOnTheWay() {
        slopeIs("-30000000:0,2,1,0 60000000:0,2,0,0", "-60000000:0,1,1,0 90000000:0,1,0,0");
        slopeIs("30000000:0,2,1,0 -60000000:0,2,0,0", "60000000:0,1,1,0 -90000000:0,1,0,0");
        slopeIs("30000000:0,2,1,0 60000000:0,2,0,0", REFUSED);
        StringBuilder of = new StringBuilder();
        StringBuilder want = new StringBuilder();
        for (int log = 19; log >= 0; log--) {
            of.append(log < 19 ? " " : "").append("1:0,1," + log + ",0");
            want.append(log < 19 ? " " : "").append((log < 19 ? log + 2 : 1) + ":0,0," + log + ",0");
        }
        slopeIs(of.toString(), want.toString());
    }

    // ---- limits

    /** "To what growths tend: 0, another number, without bound above 0, or below 0." */
    private static void limits() {
        tends("0", Transseria.VANISHES);
        for (int sign : new int[] {1, -1}) {
            int away = sign > 0 ? Transseria.RISES : Transseria.FALLS;
            for (int what = 1; what <= 4; what++) {
                for (int exponent : new int[] {1, 99}) {
                    tends(part(sign, what, exponent), away);
                    tends(part(sign * MOST_TIMES, what, -exponent), Transseria.VANISHES);
                }
            }
            tends(sign + ":0,0,0,0", Transseria.SETTLES);
            tends(sign * MOST_TIMES + ":0,0,0,0", Transseria.SETTLES);
            tends(sign + ":0,0,0,0 " + sign * MOST_TIMES + ":0,0,0,-1", Transseria.SETTLES);
            tends(sign + ":0,0,0,0 " + -sign * MOST_TIMES + ":-1,99,99,99", Transseria.SETTLES);
            tends(sign + ":0,0,0,1 " + -sign * MOST_TIMES + ":0,0,0,0", away);
            tends(sign + ":1,-99,-99,-99 " + -sign * MOST_TIMES + ":0,99,99,99", away);
            tends(sign + ":0,1,-99,-99", away);
            tends(sign + ":0,0,1,-99", away);
            tends(sign + ":-1,99,99,99", Transseria.VANISHES);
            tends(sign + ":0,-1,99,99", Transseria.VANISHES);
            tends(sign + ":0,0,-1,99", Transseria.VANISHES);
            tends(sign + ":0,0,0,-1 " + sign + ":0,0,-1,99", Transseria.VANISHES);
        }
    }
}
