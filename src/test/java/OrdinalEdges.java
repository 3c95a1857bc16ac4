/** The boundary cases that the section 'Ordinals' of the document names, sentence by sentence. */
public final class OrdinalEdges {
    private static final Check C = new Check();
    private static final String REFUSED = Making.REFUSED;
    private static final String SEVEN = "w^8+w^7+w^6+w^5+w^4+w^3+w^2";
    private static final int SUM = 0, PRODUCT = 1, NATURAL_SUM = 2, NATURAL_PRODUCT = 3;
    private static final String[] NAMES = {"sum", "product", "natural sum", "natural product"};

    public static void main(String[] args) {
        zeroAndFiniteOnes();
        whereAnOrdinalStood();
        depthThatFits();
        comparisons();
        sums();
        sumsThatJustFit();
        naturalSums();
        naturalSumsThatJustFit();
        products();
        productsThatJustFit();
        productsWhoseExponentsJustFit();
        naturalProducts();
        naturalProductsThatJustFit();
        naturalProductsWhoseExponentsJustFit();
        steps();
        stepsThatJustFit();
        descents();
        descentsThatJustFit();
        allCallsOfAnObject();
        C.end("OrdinalEdges");
    }

    // ---- how the tests are told

    private static void reckon(Transseria x, int how, int place, int one, int other) {
        switch (how) {
            case SUM: C.due("kind of a sum", x.sum(place, one, other), Transseria.ORDINAL); break;
            case PRODUCT: C.due("kind of a product", x.product(place, one, other), Transseria.ORDINAL); break;
            default: x.natural(place, one, other, how == NATURAL_PRODUCT);
        }
    }

    private static void is(int how, String one, String other, String want) {
        Making.is(C, NAMES[how] + " of " + one + " and " + other, () -> Rooms.withOrdinals(one, other),
                (x, place) -> reckon(x, how, place, 0, 1), want, one, other);
    }

    private static void bothWays(int how, String one, String other, String want) {
        is(how, one, other, want);
        is(how, other, one, want);
    }

    private static void ofItself(int how, String one, String want) {
        Transseria x = Rooms.withOrdinals(one);
        reckon(x, how, 0, 0, 0);
        C.text(NAMES[how] + " of " + one + " and itself", Rooms.text(x, 0), want);
    }

    private static void stepIs(String from, int n, String want) {
        Making.is(C, "step of " + from + " by " + n, () -> Rooms.withOrdinals(from), (x, place) -> x.step(place, 0, n), want, from);
    }

    private static void descentIs(String from, int n, int most, int want) {
        Transseria x = Rooms.withOrdinals(from);
        String what = "descent from " + from + " by " + n + " with " + most;
        C.due(what, x.descent(0, n, most), want);
        C.text(what + ": it stays", Rooms.text(x, 0), from);
    }

    private static void descentIsRefused(String from, int n, int most) {
        Transseria x = Rooms.withOrdinals(from);
        String what = "descent from " + from + " by " + n + " with " + most;
        C.noState(what, () -> x.descent(0, n, most));
        C.text(what + ": it stays", Rooms.text(x, 0), from);
    }

    private static void less(String one, String other) {
        Transseria x = Rooms.withOrdinals(one, other);
        C.due(one + " is less than " + other, x.compare(0, 1), -1);
        C.due(other + " is greater than " + one, x.compare(1, 0), 1);
        same(one);
        same(other);
    }

    private static void same(String one) {
        Transseria x = Rooms.withOrdinals(one, one);
        C.due(one + " is " + one, x.compare(0, 1), 0);
        C.due(one + " is itself", x.compare(0, 0), 0);
    }

    // ---- what an ordinal is

    /** "without any power it is 0. A finite one, n above 0, is the power with the exponent 0, n times." */
    private static void zeroAndFiniteOnes() {
        Transseria x = new Transseria();
        x.finite(0, 0);
        C.due("0 is an ordinal", x.kind(0), Transseria.ORDINAL);
        C.due("0 has no power", x.powers(0), 0);
        C.noState("0 has no first times", () -> x.times(0, 0));
        C.noState("0 has no first exponent", () -> x.exponent(1, 0, 0));
        C.due("nothing came", x.kind(1), Transseria.NOTHING);
        for (int n : new int[] {1, 2, 1000000}) {
            x.finite(1, n);
            C.due(n + " has a power", x.powers(1), 1);
            C.due(n + " has it n times", x.times(1, 0), n);
            C.noState(n + " has no second one", () -> x.times(1, 1));
            x.exponent(2, 1, 0);
            C.due("its exponent is 0", x.powers(2), 0);
        }
        x.omega(3, 0);
        C.text("omega to 0", Rooms.text(x, 3), "1");
    }

    /** What a place held before is gone. */
    private static void whereAnOrdinalStood() {
        String[] made = {"0", "1", "w", "w^(w)+3"};
        for (String one : made) {
            Transseria x = Rooms.withOrdinals(Rooms.EIGHT, one, "0");
            x.sum(0, 1, 2);
            C.text(one + " where eight powers stood", Rooms.text(x, 0), one);
            C.due(one + " is the same there", x.compare(0, 1), 0);
            int powers = x.powers(0);
            C.noState("no times behind the last of " + one, () -> x.times(0, powers));
            C.noState("no exponent behind the last of " + one, () -> x.exponent(0, 0, powers));
        }
    }

    /** "The depth of 0 is 0; of others it is 1 more than the greatest depth of its exponents.", "a depth of at most 5" */
    private static void depthThatFits() {
        Transseria x = new Transseria();
        x.finite(0, 0);
        for (int depth = 1; depth <= 5; depth++) {
            x.omega(0, 0);
        }
        C.text("depth 5, from 0", Rooms.text(x, 0), "w^(w^(w^(w)))");
        C.noState("depth 6, where it stands", () -> x.omega(0, 0));
        C.noState("depth 6, elsewhere", () -> x.omega(1, 0));
        C.text("it stays", Rooms.text(x, 0), "w^(w^(w^(w)))");
        C.due("nothing came", x.kind(1), Transseria.NOTHING);
        for (String four : new String[] {"w^(w^(w))", "w^(w^(1000000))*1000000", "w^(w^(w))+1", "w^(w^2)*3+w", "w^(" + Rooms.EIGHT + ")"}) {
            Transseria y = Rooms.withOrdinals(four);
            y.omega(0, 0);
            C.due("omega to " + four, y.powers(0), 1);
        }
        for (String five : new String[] {"w^(w^(w^2))", "w^(w^(w^(w)))*1000000", "w^(w^(w^(w)))+1", "w^(w^(w^(w)+1))", "w^(w^(w^(w))+w)"}) {
            Transseria y = Rooms.withOrdinals(five);
            boolean fits = five.equals("w^(w^(w^2))");
            if (fits) {
                y.omega(0, 0);
                C.text("omega to depth 4", Rooms.text(y, 0), "w^(w^(w^(w^2)))");
            }
            String stays = fits ? "w^(w^(w^(w^2)))" : five;
            C.noState("omega to depth 5", () -> y.omega(0, 0));
            C.text("it stays", Rooms.text(y, 0), stays);
        }
    }

    // ---- comparison

    /** "the one with the greater exponent, or the same and more times, is greater; if one ends, that is less." */
    private static void comparisons() {
        same("0");
        same(Rooms.EIGHT);
        less("0", "1");
        less("0", "w^(w^(w^(w)))");
        less("999999", "1000000");
        less("1000000", "w");
        less("w*1000000", "w^2");
        less("w+1000000", "w*2");
        less("w", "w+1");
        less("w*2+5", "w*2+6");
        less("w^2+w*9", "w^2*2");
        less("w^2+w*9+9", "w^2+w*10");
        less("w^3+w+9", "w^3+w^2");
        less(SEVEN, Rooms.EIGHT);
        less(Rooms.EIGHT, Rooms.EIGHT + "*2");
        less("w^7+w^6+w^5+w^4+w^3+w^2+w+1", Rooms.EIGHT);
        less("w^1000000", "w^(w)");
        less("w^(w)*1000000", "w^(w+1)");
        less("w^(w+1)", "w^(w*2)");
        less("w^(w^(w^(w)))", "w^(w^(w^(w)))+1");
        less("w^(w^(w^(w)))", "w^(w^(w^(w)))*2");
        less("w^(w^(w^(w)))", "w^(w^(w^(w))*2)");
        less("w^(w^(w^(w)))", "w^(w^(w^(w)*2))");
        less("w^(w^(w^(w)))", "w^(w^(w^(w*2)))");
        less("w^(w^(w^(w)))", "w^(w^(w^(w+1)))");
        less("w^(w^(w^(w)))", "w^(w^(w^(w^2)))");
        less("w^(w^(w^1000000))", "w^(w^(w^(w)))");
    }

    // ---- sums

    /** "The sum of a and b is a, if b is 0; otherwise all powers of a with exponents above the first one of b; then that of b, .." */
    private static void sums() {
        for (String a : new String[] {"0", "1", "w", Rooms.EIGHT, "w^(w^(w^(w)))*1000000"}) {
            is(SUM, a, "0", a);
            is(SUM, "0", a, a);
        }
        is(SUM, "1", "w", "w");
        is(SUM, "w", "1", "w+1");
        is(SUM, "w^2+w+5", "w^3", "w^3");
        is(SUM, "w^3", "w^2+w+5", "w^3+w^2+w+5");
        is(SUM, "w^4+w^2*3+7", "w^2*5+w+1", "w^4+w^2*8+w+1");
        is(SUM, "w^4+w^2*3+7", "w^3*5+w", "w^4+w^3*5+w");
        is(SUM, "w^4+w^2*3+7", "9", "w^4+w^2*3+16");
        is(SUM, "w^4+w^2*3+7", "w^4", "w^4*2");
        is(SUM, "w^(w)+w^9", "w^(w)+w^3", "w^(w)*2+w^3");
        is(SUM, "w^(w)+w^9", "w^(w+1)", "w^(w+1)");
        ofItself(SUM, "0", "0");
        ofItself(SUM, "w^2+w+5", "w^2*2+w+5");
        ofItself(SUM, "w^(w^(w^(w)))", "w^(w^(w^(w)))*2");
    }

    private static void sumsThatJustFit() {
        is(SUM, SEVEN, "w", Rooms.EIGHT);
        is(SUM, SEVEN, "w+1", REFUSED);
        is(SUM, Rooms.EIGHT, "1", REFUSED);
        is(SUM, "1", Rooms.EIGHT, Rooms.EIGHT);
        is(SUM, "w^(w)", Rooms.EIGHT, REFUSED);
        is(SUM, "w^8*5", Rooms.EIGHT, "w^8*6+w^7+w^6+w^5+w^4+w^3+w^2+w");
        is(SUM, Rooms.EIGHT, "w^3+w^2+w", "w^8+w^7+w^6+w^5+w^4+w^3*2+w^2+w");
        is(SUM, Rooms.EIGHT, "w^3+w^2+w+1", REFUSED);
        is(SUM, Rooms.EIGHT, "w^2+2", "w^8+w^7+w^6+w^5+w^4+w^3+w^2*2+2");
        is(SUM, "999999", "1", "1000000");
        is(SUM, "1000000", "1", REFUSED);
        is(SUM, "1", "1000000", REFUSED);
        is(SUM, "500000", "500000", "1000000");
        is(SUM, "w*999999+4", "w", "w*1000000");
        is(SUM, "w*1000000+4", "w", REFUSED);
        is(SUM, "w*1000000+4", "1", "w*1000000+5");
        is(SUM, "w^2+w*1000000", "w^2+w*1000000", "w^2*2+w*1000000");
        is(SUM, "w^(w^(w^(w)))*999999", "w^(w^(w^(w)))", "w^(w^(w^(w)))*1000000");
        is(SUM, "w^(w^(w^(w)))*999999", "w^(w^(w^(w)))*2", REFUSED);
    }

    /** "The natural sum has all powers of both, with their times together." */
    private static void naturalSums() {
        for (String a : new String[] {"0", "1", "w", Rooms.EIGHT, "w^(w^(w^(w)))*1000000"}) {
            bothWays(NATURAL_SUM, a, "0", a);
        }
        bothWays(NATURAL_SUM, "1", "w", "w+1");
        bothWays(NATURAL_SUM, "w^4+w^2*3+7", "w^3+w^2*5+w", "w^4+w^3+w^2*8+w+7");
        bothWays(NATURAL_SUM, "w^4+w^2*3+7", "9", "w^4+w^2*3+16");
        bothWays(NATURAL_SUM, "w^(w)+w^9", "w^(w+1)+w^(w)+w^8", "w^(w+1)+w^(w)*2+w^9+w^8");
        ofItself(NATURAL_SUM, "0", "0");
        ofItself(NATURAL_SUM, "w^2+w+5", "w^2*2+w*2+10");
    }

    private static void naturalSumsThatJustFit() {
        bothWays(NATURAL_SUM, SEVEN, "w", Rooms.EIGHT);
        bothWays(NATURAL_SUM, "w^8+w^6+w^4+w^2", "w^7+w^5+w^3+w", Rooms.EIGHT);
        bothWays(NATURAL_SUM, "w^8+w^6+w^4+w^2", "w^7+w^5+w^3+w+1", REFUSED);
        bothWays(NATURAL_SUM, Rooms.EIGHT, "1", REFUSED);
        bothWays(NATURAL_SUM, Rooms.EIGHT, "w^(w)", REFUSED);
        ofItself(NATURAL_SUM, "w^2+w", "w^2*2+w*2");
        bothWays(NATURAL_SUM, "999999", "1", "1000000");
        bothWays(NATURAL_SUM, "1000000", "1", REFUSED);
        bothWays(NATURAL_SUM, "w*500000", "w*500000", "w*1000000");
        bothWays(NATURAL_SUM, "w*500000", "w*500001", REFUSED);
        bothWays(NATURAL_SUM, "w^2+w*1000000", "w^2+1000000", "w^2*2+w*1000000+1000000");
        bothWays(NATURAL_SUM, "w^2+w*1000000", "w^2+w", REFUSED);
    }

    // ---- products

    /** "The product of a and b is 0, if one is; otherwise, for each power of b, .." */
    private static void products() {
        for (String a : new String[] {"0", "1", "1000000", "w", Rooms.EIGHT, "w^(w^(w^(w)))*1000000"}) {
            bothWays(PRODUCT, a, "0", "0");
            bothWays(PRODUCT, a, "1", a);
        }
        is(PRODUCT, "5", "w", "w");
        is(PRODUCT, "w", "5", "w*5");
        is(PRODUCT, "w^3*2+w+7", "5", "w^3*10+w+7");
        is(PRODUCT, "5", "w^3*2+w+7", "w^3*2+w+35");
        is(PRODUCT, "w^3*2+w+7", "w*4", "w^4*4");
        is(PRODUCT, "w^3*2+w+7", "w^(w)*3+w*4+5", "w^(w)*3+w^4*4+w^3*10+w+7");
        is(PRODUCT, "w^(w)*3+w*4+5", "w^3*2+w+7", "w^(w+3)*2+w^(w+1)+w^(w)*21+w*4+5");
        is(PRODUCT, "w^(w^(w^(w)))", "w", "w^(w^(w^(w))+1)");
        is(PRODUCT, "w", "w^(w^(w^(w)))", "w^(w^(w^(w)))");
        ofItself(PRODUCT, "0", "0");
        ofItself(PRODUCT, "w+2", "w^2+w*2+2");
    }

    private static void productsThatJustFit() {
        is(PRODUCT, "w^3+w^2+w+1", "w^4+w^3+w^2+w+1", "w^7+w^6+w^5+w^4+w^3+w^2+w+1");
        is(PRODUCT, "w^3+w^2+w+1", "w^5+w^4+w^3+w^2+w+1", REFUSED);
        is(PRODUCT, "w^4+w^3+w^2+w+1", "w^4+w^3+w^2+w+1", REFUSED);
        is(PRODUCT, Rooms.EIGHT, "w", "w^9");
        is(PRODUCT, Rooms.EIGHT, "1000000", "w^8*1000000+w^7+w^6+w^5+w^4+w^3+w^2+w");
        is(PRODUCT, Rooms.EIGHT, "w+1", REFUSED);
        is(PRODUCT, Rooms.EIGHT, "w^7+w^6+w^5+w^4+w^3+w^2+w+1", REFUSED);
        is(PRODUCT, "w", Rooms.EIGHT, "w^9+w^8+w^7+w^6+w^5+w^4+w^3+w^2");
        is(PRODUCT, Rooms.EIGHT, Rooms.EIGHT, "w^16+w^15+w^14+w^13+w^12+w^11+w^10+w^9");
        is(PRODUCT, "1000", "1000", "1000000");
        is(PRODUCT, "1000", "1001", REFUSED);
        is(PRODUCT, "1000000", "1000000", REFUSED);
        is(PRODUCT, "w*1000+1000000", "1000", "w*1000000+1000000");
        is(PRODUCT, "w*1001", "1000", REFUSED);
        is(PRODUCT, "w*1000000+1000000", "w*1000000+1", "w^2*1000000+w*1000000+1000000");
        is(PRODUCT, "w*1000000+1000000", "w*1000000+2", REFUSED);
        is(PRODUCT, "1000000", "w*1000000", "w*1000000");
    }

    /** "It FITS .. and so for all its exponents." */
    private static void productsWhoseExponentsJustFit() {
        is(PRODUCT, "w^999999", "w", "w^1000000");
        is(PRODUCT, "w^1000000", "w", REFUSED);
        is(PRODUCT, "w", "w^1000000", REFUSED);
        is(PRODUCT, "w^1000000", "w^(w)", "w^(w)");
        is(PRODUCT, "w^1000000", "1", "w^1000000");
        is(PRODUCT, "w", "w^(w)+w^1000000+1", REFUSED);
        is(PRODUCT, "w", "w^(w)+w^999999+1", "w^(w)+w^1000000+w");
        is(PRODUCT, "w^(" + SEVEN + ")", "w^(w)", "w^(" + Rooms.EIGHT + ")");
        is(PRODUCT, "w^(" + Rooms.EIGHT + ")", "w", REFUSED);
        is(PRODUCT, "w^(" + Rooms.EIGHT + ")", "w^(w)", "w^(" + Rooms.EIGHT + "*2)");
        is(PRODUCT, "w^(" + Rooms.EIGHT + ")", "5", "w^(" + Rooms.EIGHT + ")*5");
        is(PRODUCT, "w", "w^(" + Rooms.EIGHT + ")", "w^(" + Rooms.EIGHT + ")");
        is(PRODUCT, "w^(w*999999)", "w^(w)", "w^(w*1000000)");
        is(PRODUCT, "w^(w*999999)", "w^(w*2)", REFUSED);
    }

    /** "for each power of a and each of b, a power with the natural sum of both exponents, .. those of the same exponent together" */
    private static void naturalProducts() {
        for (String a : new String[] {"0", "1", "1000000", "w", Rooms.EIGHT, "w^(w^(w^(w)))*1000000"}) {
            bothWays(NATURAL_PRODUCT, a, "0", "0");
            bothWays(NATURAL_PRODUCT, a, "1", a);
        }
        bothWays(NATURAL_PRODUCT, "5", "w", "w*5");
        bothWays(NATURAL_PRODUCT, "w", "w^(w)", "w^(w+1)");
        bothWays(NATURAL_PRODUCT, "w+2", "w*3+5", "w^2*3+w*11+10");
        bothWays(NATURAL_PRODUCT, "w^10*2+w^9*3", "w^5*5+7", "w^15*10+w^14*15+w^10*14+w^9*21");
        bothWays(NATURAL_PRODUCT, "w^4*2+w^2*3+5", "w^3*7+w*11", "w^7*14+w^5*43+w^3*68+w*55");
        bothWays(NATURAL_PRODUCT, "w^9*2+w^8*3+w^7*5", "w^6*7+w^3*11", "w^15*14+w^14*21+w^13*35+w^12*22+w^11*33+w^10*55");
        bothWays(NATURAL_PRODUCT, "w^(w)+w", "w^(w)+w", "w^(w*2)+w^(w+1)*2+w^2");
        bothWays(NATURAL_PRODUCT, "w^(w^2)+1", "w^(w+3)+w^4", "w^(w^2+w+3)+w^(w^2+4)+w^(w+3)+w^4");
        ofItself(NATURAL_PRODUCT, "0", "0");
        ofItself(NATURAL_PRODUCT, "w+2", "w^2+w*4+4");
    }

    private static void naturalProductsThatJustFit() {
        bothWays(NATURAL_PRODUCT, "w^3+w^2+w+1", "w^4+w^3+w^2+w+1", "w^7+w^6*2+w^5*3+w^4*4+w^3*4+w^2*3+w*2+1");
        bothWays(NATURAL_PRODUCT, "w^4+w^3+w^2+w+1", "w^4+w^3+w^2+w+1", REFUSED);
        bothWays(NATURAL_PRODUCT, Rooms.EIGHT, "w+1", REFUSED);
        bothWays(NATURAL_PRODUCT, Rooms.EIGHT, "w", "w^9+w^8+w^7+w^6+w^5+w^4+w^3+w^2");
        is(NATURAL_PRODUCT, Rooms.EIGHT, Rooms.EIGHT, REFUSED);
        bothWays(NATURAL_PRODUCT, "w^24+w^16+w^8+1", "w+1", "w^25+w^24+w^17+w^16+w^9+w^8+w+1");
        bothWays(NATURAL_PRODUCT, "w^24+w^16+w^8+1", "w^2+w+1", REFUSED);
        bothWays(NATURAL_PRODUCT, "1000", "1000", "1000000");
        bothWays(NATURAL_PRODUCT, "1000", "1001", REFUSED);
        bothWays(NATURAL_PRODUCT, "1000000", "1000000", REFUSED);
        is(NATURAL_PRODUCT, "w*1000+500", "w*1000+500", "w^2*1000000+w*1000000+250000");
        bothWays(NATURAL_PRODUCT, "w*1000+500", "w*1000+501", REFUSED);
        bothWays(NATURAL_PRODUCT, "w*1000+5", "w*1001", REFUSED);
        bothWays(NATURAL_PRODUCT, "w+1000", "w+1000", "w^2+w*2000+1000000");
        bothWays(NATURAL_PRODUCT, "w+1000", "w+1001", REFUSED);
    }

    /** "or an exponent or what is made does not FIT" */
    private static void naturalProductsWhoseExponentsJustFit() {
        bothWays(NATURAL_PRODUCT, "w^500000", "w^500000", "w^1000000");
        bothWays(NATURAL_PRODUCT, "w^500000", "w^500001", REFUSED);
        bothWays(NATURAL_PRODUCT, "w^1000000+1", "w", REFUSED);
        bothWays(NATURAL_PRODUCT, "w^999999+1", "w", "w^1000000+w");
        bothWays(NATURAL_PRODUCT, "w^(w*500000)", "w^(w*500000)", "w^(w*1000000)");
        bothWays(NATURAL_PRODUCT, "w^(w*500000)", "w^(w*500001)", REFUSED);
        bothWays(NATURAL_PRODUCT, "w^(" + SEVEN + ")", "w^(w)", "w^(" + Rooms.EIGHT + ")");
        bothWays(NATURAL_PRODUCT, "w^(" + Rooms.EIGHT + ")", "w", REFUSED);
        bothWays(NATURAL_PRODUCT, "w^(" + Rooms.EIGHT + ")", "w^(w)", "w^(" + Rooms.EIGHT + "*2)");
        bothWays(NATURAL_PRODUCT, "w^(" + Rooms.EIGHT + ")+1", "w^(w)+w", REFUSED);
    }

    // ---- steps

    /** "its last power has one time less (and is gone if it has none); then, if its exponent is e and 1, .." */
    private static void steps() {
        stepIs("0", 1, REFUSED);
        stepIs("0", 99, REFUSED);
        stepIs("1", 99, "0");
        stepIs("2", 99, "1");
        stepIs("1000000", 1, "999999");
        stepIs("w+1", 99, "w");
        stepIs("w+2", 99, "w+1");
        stepIs("w", 1, "1");
        stepIs("w", 99, "99");
        stepIs("w*2", 99, "w+99");
        stepIs("w*1000000", 3, "w*999999+3");
        stepIs("w^2", 1, "w");
        stepIs("w^2", 99, "w*99");
        stepIs("w^1000000", 3, "w^999999*3");
        stepIs("w^(w+1)", 4, "w^(w)*4");
        stepIs("w^(w+2)", 4, "w^(w+1)*4");
        stepIs("w^(w+1)*2", 4, "w^(w+1)+w^(w)*4");
        stepIs("w^(w)", 1, "w");
        stepIs("w^(w)", 4, "w^4");
        stepIs("w^(w)*3", 4, "w^(w)*2+w^4");
        stepIs("w^(w*2)", 4, "w^(w+4)");
        stepIs("w^(w^2)", 4, "w^(w*4)");
        stepIs("w^(w^(w))", 4, "w^(w^4)");
        stepIs("w^(w^(w+1))", 4, "w^(w^(w)*4)");
        stepIs("w^(w^(w^(w)))", 1, "w^(w^(w))");
        stepIs("w^(w^(w^(w)))", 99, "w^(w^(w^99))");
        stepIs("w^(w^(w^(w)))*2", 5, "w^(w^(w^(w)))+w^(w^(w^5))");
        stepIs("w^(w^(w^(w^2)))", 7, "w^(w^(w^(w*7)))");
        stepIs("w^(w)+w^3+w^2", 7, "w^(w)+w^3+w*7");
    }

    private static void stepsThatJustFit() {
        stepIs(Rooms.EIGHT, 6, SEVEN + "+6");
        stepIs(Rooms.EIGHT + "*2", 6, REFUSED);
        stepIs(SEVEN + "+1", 6, SEVEN);
        stepIs(SEVEN + "+2", 6, SEVEN + "+1");
        stepIs(SEVEN + "*2", 6, SEVEN + "+w*6");
        stepIs("w^(" + Rooms.EIGHT + ")", 6, "w^(" + SEVEN + "+6)");
        stepIs("w^(" + Rooms.EIGHT + "*2)", 6, REFUSED);
        stepIs("w^(" + Rooms.EIGHT + "*2)*2", 6, REFUSED);
        stepIs("w^(" + SEVEN + "+1)", 6, "w^(" + SEVEN + ")*6");
        stepIs("w^(w^(" + Rooms.EIGHT + "))", 6, "w^(w^(" + SEVEN + "+6))");
        stepIs("w^(w^(" + Rooms.EIGHT + "*2))", 6, REFUSED);
    }

    // ---- descents

    /** "by how many steps an ordinal comes to 0, the first one by n, each later one by 1 more"; "NONE if they are more than most" */
    private static void descents() {
        for (int n : new int[] {1, 99}) {
            descentIs("0", n, 0, 0);
            descentIs("0", n, 2000, 0);
            descentIs("1", n, 1, 1);
            descentIs("1", n, 0, Transseria.NONE);
            descentIs("2000", n, 2000, 2000);
            descentIs("2001", n, 2000, Transseria.NONE);
            descentIs("1000000", n, 2000, Transseria.NONE);
            descentIs("w", n, n + 1, n + 1);
            descentIs("w", n, n, Transseria.NONE);
            descentIs("w", n, 0, Transseria.NONE);
            // The first step and n more went, so that omega goes to 2 n + 1.
            descentIs("w*2", n, 2000, 1 + n + 1 + (2 * n + 1));
            descentIs("w+5", n, 2000, 5 + 1 + n + 5);
            descentIs("w^2", n, 1, Transseria.NONE);
        }
        descentIs("w^2", 1, 2000, 4);
        descentIs("w^2", 1, 4, 4);
        descentIs("w^2", 1, 3, Transseria.NONE);
        descentIs("w^2", 2, 2000, 13);
        descentIs("w^2", 2, 12, Transseria.NONE);
        descentIs("w^(w)", 1, 2000, 1 + 3);
        descentIs("w^(w^(w^(w)))", 1, 3, Transseria.NONE);
        descentIs("w^3", 1, 2000, 14);
    }

    /** "or one to which it comes by at most so many steps does not FIT (also if it would come to 0 by more)" */
    private static void descentsThatJustFit() {
        descentIs(Rooms.EIGHT + "*2", 1, 0, Transseria.NONE);
        descentIsRefused(Rooms.EIGHT + "*2", 1, 1);
        descentIsRefused(Rooms.EIGHT + "*2", 99, 2000);
        descentIs("w^(" + Rooms.EIGHT + "*2)", 1, 0, Transseria.NONE);
        descentIsRefused("w^(" + Rooms.EIGHT + "*2)", 1, 1);
        // Two steps to the end of 2, one that makes w * 3 an eighth power, and one that makes a ninth.
        descentIs(SEVEN + "*2+2", 1, 2, Transseria.NONE);
        descentIs(SEVEN + "*2+2", 1, 3, Transseria.NONE);
        descentIsRefused(SEVEN + "*2+2", 1, 4);
        descentIsRefused(SEVEN + "*2+2", 1, 2000);
        // Four steps until w squared is gone, one that makes it anew behind w cubed, and one that makes a ninth.
        descentIs("w^9+w^8+w^7+w^6+w^5+w^4+w^3*2+w^2", 1, 5, Transseria.NONE);
        descentIsRefused("w^9+w^8+w^7+w^6+w^5+w^4+w^3*2+w^2", 1, 6);
        // The last power goes to 3, which goes, and the one ahead of it then makes no more than it loses.
        descentIs(Rooms.EIGHT, 3, 2000, Transseria.NONE);
    }

    // ---- the life of an object

    /** "An object is used for at most 512 calls": the last one answers as the first one does, whatever was made before. */
    private static void allCallsOfAnObject() {
        Transseria x = new Transseria();
        Rooms.powersFrom(x, 0, 1, 8);
        x.finite(1, 99);
        x.omega(2, 1);
        x.finite(9, 2000);
        for (int calls = 1 + 3 * 8 + 3; calls < 508; calls++) {
            x.natural(3, 2, 0, true);
        }
        C.due("a descent as the 509th call", x.descent(9, 1, 2000), 2000);
        x.natural(3, 2, 0, true);
        C.due("powers as the 511th call", x.powers(3), 8);
        C.due("times as the 512th call", x.times(3, 7), 1);
    }
}
