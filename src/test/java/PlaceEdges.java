/** The boundary cases that the section 'Places' and the ranges of all arguments name, promise by promise. */
public final class PlaceEdges {
    private static final Check C = new Check();
    private static final int NOTHING = Transseria.NOTHING, ORDINAL = Transseria.ORDINAL, NUMBER = Transseria.NUMBER, GROWTH = Transseria.GROWTH;
    private static final int[] BELOW_0 = {-1, Integer.MIN_VALUE};

    public static void main(String[] args) {
        newObjectsHoldNothing();
        placesOfCallsOfAnyKind();
        placesOfCallsWithOrdinals();
        placesOfCallsWithNumbers();
        placesOfCallsWithGrowths();
        whateverAPlaceHeld();
        madeOfWhatThatPlaceHeld();
        clearTakesOnePlace();
        rangeOfFinite();
        rangesOfNumber();
        rangesOfSigns();
        rangesOfTerm();
        rangeOfStep();
        rangesOfDescent();
        rangesOfTimesAndExponent();
        rangesOfCut();
        rangeOfSignOf();
        rangesOfPart();
        unlikeThings();
        C.end("PlaceEdges");
    }

    // ---- places

    private static void newObjectsHoldNothing() {
        Transseria x = new Transseria();
        for (int place = 0; place < 16; place++) {
            C.due("a new object's place " + place, x.kind(place), NOTHING);
            C.due("clear of a new object's place " + place, x.clear(place), NOTHING);
        }
    }

    private static Transseria filled(int kind) {
        Transseria x = new Transseria();
        for (int place = 0; place < 16; place++) {
            put(x, place, kind);
        }
        return x;
    }

    private static void put(Transseria x, int place, int kind) {
        switch (kind) {
            case ORDINAL: x.finite(place, 1); break;
            case NUMBER: x.number(place, 1, 0); break;
            case GROWTH: x.term(place, 1, 0, 0, 0, 0); break;
            default: x.clear(place);
        }
    }

    /** Places 0 and 15 are there, -1 and 16 are not; that comes first, whatever the places hold. */
    private static void asksForPlaces(String what, int kind, Making.Call call) {
        for (int place : new int[] {0, 7, Rooms.LAST}) {
            try {
                call.run(filled(kind), place);
            } catch (RuntimeException e) {
                C.text(what + " with the place " + place, e.getClass().getName(), "no exception");
            }
        }
        for (int wrong : Rooms.WRONG_PLACES) {
            C.noPlace(what + " with the place " + wrong, () -> call.run(filled(kind), wrong));
            C.noPlace(what + " of nothing with the place " + wrong, () -> call.run(new Transseria(), wrong));
        }
    }

    private static void placesOfCallsOfAnyKind() {
        asksForPlaces("kind", NUMBER, Transseria::kind);
        asksForPlaces("clear", NUMBER, Transseria::clear);
        asksForPlaces("finite", NUMBER, (x, p) -> x.finite(p, 1));
        asksForPlaces("number", ORDINAL, (x, p) -> x.number(p, 1, 0));
        asksForPlaces("signs", ORDINAL, (x, p) -> x.signs(p, 1, 1));
        asksForPlaces("term", ORDINAL, (x, p) -> x.term(p, 1, 0, 0, 0, 0));
        for (int kind = ORDINAL; kind <= GROWTH; kind++) {
            asksForPlaces("sum into", kind, (x, p) -> x.sum(p, 1, 2));
            asksForPlaces("sum of one", kind, (x, p) -> x.sum(1, p, 2));
            asksForPlaces("sum of other", kind, (x, p) -> x.sum(1, 2, p));
            asksForPlaces("product into", kind, (x, p) -> x.product(p, 1, 2));
            asksForPlaces("product of one", kind, (x, p) -> x.product(1, p, 2));
            asksForPlaces("product of other", kind, (x, p) -> x.product(1, 2, p));
            asksForPlaces("compare one", kind, (x, p) -> x.compare(p, 1));
            asksForPlaces("compare other", kind, (x, p) -> x.compare(1, p));
        }
    }

    private static void placesOfCallsWithOrdinals() {
        asksForPlaces("omega into", ORDINAL, (x, p) -> x.omega(p, 1));
        asksForPlaces("omega to", ORDINAL, (x, p) -> x.omega(1, p));
        for (boolean isProduct : new boolean[] {false, true}) {
            asksForPlaces("natural into", ORDINAL, (x, p) -> x.natural(p, 1, 2, isProduct));
            asksForPlaces("natural of one", ORDINAL, (x, p) -> x.natural(1, p, 2, isProduct));
            asksForPlaces("natural of other", ORDINAL, (x, p) -> x.natural(1, 2, p, isProduct));
        }
        asksForPlaces("step into", ORDINAL, (x, p) -> x.step(p, 1, 1));
        asksForPlaces("step of", ORDINAL, (x, p) -> x.step(1, p, 1));
        asksForPlaces("descent", ORDINAL, (x, p) -> x.descent(p, 1, 1));
        asksForPlaces("powers", ORDINAL, Transseria::powers);
        asksForPlaces("times", ORDINAL, (x, p) -> x.times(p, 0));
        asksForPlaces("exponent into", ORDINAL, (x, p) -> x.exponent(p, 1, 0));
        asksForPlaces("exponent of", ORDINAL, (x, p) -> x.exponent(1, p, 0));
    }

    private static void placesOfCallsWithNumbers() {
        asksForPlaces("difference into", NUMBER, (x, p) -> x.difference(p, 1, 2));
        asksForPlaces("difference of one", NUMBER, (x, p) -> x.difference(1, p, 2));
        asksForPlaces("difference of other", NUMBER, (x, p) -> x.difference(1, 2, p));
        asksForPlaces("cut", NUMBER, (x, p) -> x.cut(p, 1, 0));
        asksForPlaces("birthday", NUMBER, Transseria::birthday);
        asksForPlaces("signOf", NUMBER, (x, p) -> x.signOf(p, 0));
        asksForPlaces("parts", NUMBER, Transseria::parts);
    }

    private static void placesOfCallsWithGrowths() {
        asksForPlaces("difference into", GROWTH, (x, p) -> x.difference(p, 1, 2));
        asksForPlaces("difference of one", GROWTH, (x, p) -> x.difference(1, p, 2));
        asksForPlaces("difference of other", GROWTH, (x, p) -> x.difference(1, 2, p));
        asksForPlaces("derive into", GROWTH, (x, p) -> x.derive(p, 1));
        asksForPlaces("derive of", GROWTH, (x, p) -> x.derive(1, p));
        asksForPlaces("tends", GROWTH, Transseria::tends);
        asksForPlaces("terms", GROWTH, Transseria::terms);
        asksForPlaces("part", GROWTH, (x, p) -> x.part(p, 0, 0));
    }

    /** "What is made comes into a place, whatever it held", and into no other one. */
    private static void comesInto(String what, int made, Making.Call call) {
        for (int held = NOTHING; held <= GROWTH; held++) {
            for (int place : new int[] {0, 9, Rooms.LAST}) {
                Transseria x = filled(held);
                put(x, 1, made);
                put(x, 2, made);
                call.run(x, place);
                C.due(what + " comes into " + place + ", where was " + held, x.kind(place), made);
                for (int k = 0; k < 16; k++) {
                    int stays = k == 1 || k == 2 ? made : held;
                    C.due(what + " into " + place + " leaves " + k, x.kind(k), k == place ? made : stays);
                }
            }
        }
    }

    private static void whateverAPlaceHeld() {
        comesInto("finite", ORDINAL, (x, p) -> x.finite(p, 0));
        comesInto("omega", ORDINAL, (x, p) -> x.omega(p, 1));
        comesInto("natural", ORDINAL, (x, p) -> x.natural(p, 1, 2, true));
        comesInto("step", ORDINAL, (x, p) -> x.step(p, 1, 1));
        comesInto("exponent", ORDINAL, (x, p) -> x.exponent(p, 1, 0));
        comesInto("number", NUMBER, (x, p) -> x.number(p, 0, 0));
        comesInto("signs", NUMBER, (x, p) -> x.signs(p, 0, 0));
        comesInto("cut", NUMBER, (x, p) -> x.cut(p, 0, 0));
        comesInto("cut of places", NUMBER, (x, p) -> x.cut(p, 2, 0));
        comesInto("term", GROWTH, (x, p) -> x.term(p, 0, 0, 0, 0, 0));
        comesInto("derive", GROWTH, (x, p) -> x.derive(p, 1));
        for (int kind = ORDINAL; kind <= GROWTH; kind++) {
            int made = kind;
            comesInto("sum", kind, (x, p) -> C.due("sum answers", x.sum(p, 1, 2), made));
            comesInto("product", kind, (x, p) -> C.due("product answers", x.product(p, 1, 2), made));
            if (kind != ORDINAL) {
                comesInto("difference", kind, (x, p) -> C.due("difference answers", x.difference(p, 1, 2), made));
            }
        }
    }

    /** "it may be made of what that place itself held", of both at once too */
    private static void madeOfWhatThatPlaceHeld() {
        Transseria x = Rooms.withOrdinals("w+2");
        x.natural(0, 0, 0, false);
        C.text("natural sum", Rooms.text(x, 0), "w*2+4");
        x.natural(0, 0, 0, true);
        C.text("natural product", Rooms.text(x, 0), "w^2*4+w*16+16");
        x.sum(0, 0, 0);
        C.text("sum", Rooms.text(x, 0), "w^2*8+w*16+16");
        x.product(0, 0, 0);
        C.text("product", Rooms.text(x, 0), "w^4*8+w^3*16+w^2*128+w*16+16");
        x.step(0, 0, 9);
        C.text("step", Rooms.text(x, 0), "w^4*8+w^3*16+w^2*128+w*16+15");
        x.exponent(0, 0, 1);
        C.text("exponent", Rooms.text(x, 0), "3");
        x.omega(0, 0);
        C.text("omega", Rooms.text(x, 0), "w^3");
        x.number(15, 3, 1);
        x.sum(15, 15, 15);
        C.due("3/2 + 3/2", x.parts(15), 3L * Rooms.ONE);
        x.product(15, 15, 15);
        C.due("3 by 3", x.parts(15), 9L * Rooms.ONE);
        C.due("above 9, where it stood", x.cut(15, 1 << 15, 0), 10);
        C.due("below 10, where it stood", x.cut(15, 0, 1 << 15), 0);
        C.due("below 10: 0", x.parts(15), 0);
        x.number(15, 3, 1);
        x.difference(15, 15, 15);
        C.due("3/2 - 3/2", x.parts(15), 0);
        Transseria y = Rooms.withGrowths("1:0,2,0,0 3:0,0,0,0");
        y.sum(0, 0, 0);
        C.text("sum of growths", Rooms.text(y, 0), "2:0,2,0,0 6:0,0,0,0");
        y.product(0, 0, 0);
        C.text("product of growths", Rooms.text(y, 0), "4:0,4,0,0 24:0,2,0,0 36:0,0,0,0");
        y.derive(0, 0);
        C.text("derivative", Rooms.text(y, 0), "16:0,3,0,0 48:0,1,0,0");
        y.difference(0, 0, 0);
        C.text("difference of growths", Rooms.text(y, 0), "0");
    }

    private static void clearTakesOnePlace() {
        for (int kind = NOTHING; kind <= GROWTH; kind++) {
            for (int place : new int[] {0, 8, Rooms.LAST}) {
                Transseria x = filled(kind);
                C.due("clear answers what it held", x.clear(place), kind);
                C.due("clear answers what it holds then", x.clear(place), NOTHING);
                for (int k = 0; k < 16; k++) {
                    C.due("clear of " + place + " and the place " + k, x.kind(k), k == place ? NOTHING : kind);
                }
            }
        }
    }

    // ---- the ranges of other arguments: the last that is allowed, and the first that is not, on both sides

    private static void rangeOfFinite() {
        Transseria x = new Transseria();
        x.finite(0, 0);
        C.due("finite 0", x.powers(0), 0);
        x.finite(0, 1000000);
        C.due("finite 1000000", x.times(0, 0), 1000000);
        for (int wrong : new int[] {-1, 1000001, Integer.MIN_VALUE, Integer.MAX_VALUE}) {
            C.noArgument("finite " + wrong, () -> x.finite(0, wrong));
            C.noPlace("a place comes first", () -> x.finite(16, wrong));
        }
        C.due("finite 1000000 stays", x.times(0, 0), 1000000);
    }

    private static void rangesOfNumber() {
        Transseria x = new Transseria();
        for (int power = 0; power <= 20; power++) {
            int p = power;
            int most = 256 << power;
            for (int sign : new int[] {1, -1}) {
                x.number(0, sign * most, power);
                C.due("the last numerator with " + power, x.parts(0), sign * 256L * Rooms.ONE);
                C.noArgument("one more with " + power, () -> x.number(0, sign * (most + 1), p));
                C.due("256 stays", x.parts(0), sign * 256L * Rooms.ONE);
                x.number(0, sign * (most - 1), power);
                C.due("one less with " + power, x.parts(0), sign * (256L * Rooms.ONE - (Rooms.ONE >> power)));
            }
            C.noArgument("the least of all with " + power, () -> x.number(0, Integer.MIN_VALUE, p));
            C.noArgument("the greatest of all with " + power, () -> x.number(0, Integer.MAX_VALUE, p));
        }
        for (int wrong : new int[] {-1, 21, 32, 52, 64, Integer.MIN_VALUE, Integer.MAX_VALUE}) {
            C.noArgument("power " + wrong, () -> x.number(0, 0, wrong));
            C.noPlace("a place comes first", () -> x.number(16, 0, wrong));
        }
        C.noPlace("a place comes first", () -> x.number(-1, 257, 0));
    }

    private static void rangesOfSigns() {
        Transseria x = new Transseria();
        for (int length = 0; length <= 20; length++) {
            int n = length;
            x.signs(0, 0, length);
            C.due("minus " + length + " times", x.parts(0), -(long) length * Rooms.ONE);
            x.signs(0, (1 << length) - 1, length);
            C.due("plus " + length + " times", x.parts(0), (long) length * Rooms.ONE);
            C.noArgument("the first bit beyond " + length, () -> x.signs(0, 1 << n, n));
            C.noArgument("the last bit beyond " + length, () -> x.signs(0, 1 << 30, n));
            C.noArgument("a row below 0 of " + length, () -> x.signs(0, -1, n));
            C.noArgument("the least row of " + length, () -> x.signs(0, Integer.MIN_VALUE, n));
            C.due("what stays of " + length, x.parts(0), (long) length * Rooms.ONE);
        }
        for (int wrong : new int[] {-1, 21, 31, 32, 33, 64, Integer.MIN_VALUE, Integer.MAX_VALUE}) {
            C.noArgument("length " + wrong, () -> x.signs(0, 0, wrong));
            C.noPlace("a place comes first", () -> x.signs(16, 0, wrong));
        }
        C.noPlace("a place comes first", () -> x.signs(-1, -1, 3));
        C.noPlace("a place comes first", () -> x.signs(-1, 8, 3));
    }

    private static void rangesOfTerm() {
        Transseria x = new Transseria();
        int[][] most = {{1000000, 20, 20, 20, 20}, {-1000000, -20, -20, -20, -20}};
        for (int[] t : most) {
            x.term(0, t[0], t[1], t[2], t[3], t[4]);
            for (int what = 0; what < 5; what++) {
                C.due("term with all at their ends, " + what, x.part(0, 0, what), t[what]);
            }
        }
        for (int sign : new int[] {1, -1}) {
            for (int what = 0; what < 5; what++) {
                for (int wrong : new int[] {sign * most[0][what] + sign, sign < 0 ? Integer.MIN_VALUE : Integer.MAX_VALUE}) {
                    termIsRefused(x, what, wrong);
                }
            }
        }
        for (int what = 0; what < 5; what++) {
            C.due("what refused terms leave, " + what, x.part(0, 0, what), most[1][what]);
        }
    }

    private static void termIsRefused(Transseria x, int what, int wrong) {
        for (int times : new int[] {0, 1}) {
            int[] t = {times, 0, 0, 0, 0};
            t[what] = wrong;
            C.noArgument("term with " + wrong + " for " + what, () -> x.term(0, t[0], t[1], t[2], t[3], t[4]));
            C.noPlace("a place comes first", () -> x.term(16, t[0], t[1], t[2], t[3], t[4]));
        }
    }

    private static void rangeOfStep() {
        Transseria x = Rooms.withOrdinals("w", "0");
        x.step(2, 0, 1);
        C.text("a step by 1", Rooms.text(x, 2), "1");
        x.step(2, 0, 99);
        C.text("a step by 99", Rooms.text(x, 2), "99");
        for (int wrong : new int[] {0, 100, -1, Integer.MIN_VALUE, Integer.MAX_VALUE}) {
            C.noArgument("a step by " + wrong, () -> x.step(2, 0, wrong));
            C.noArgument("an argument before the state, 0", () -> x.step(2, 1, wrong));
            C.noArgument("an argument before the state, nothing", () -> x.step(2, 9, wrong));
            C.noPlace("a place before both", () -> x.step(-1, 9, wrong));
            C.noPlace("the other place before both", () -> x.step(2, 16, wrong));
        }
        C.text("what refused steps leave", Rooms.text(x, 2), "99");
    }

    private static void rangesOfDescent() {
        Transseria x = Rooms.withOrdinals("w");
        C.due("a descent by 1", x.descent(0, 1, 2000), 2);
        C.due("a descent by 99", x.descent(0, 99, 2000), 100);
        C.due("a descent by 0 steps", x.descent(0, 1, 0), Transseria.NONE);
        for (int wrong : new int[] {0, 100, -1, Integer.MIN_VALUE, Integer.MAX_VALUE}) {
            C.noArgument("a descent by " + wrong, () -> x.descent(0, wrong, 2000));
            C.noArgument("an argument before the state", () -> x.descent(9, wrong, 2000));
            C.noPlace("a place before both", () -> x.descent(16, wrong, 2000));
        }
        for (int wrong : new int[] {-1, 2001, Integer.MIN_VALUE, Integer.MAX_VALUE}) {
            C.noArgument("a descent with " + wrong, () -> x.descent(0, 1, wrong));
            C.noArgument("an argument before the state", () -> x.descent(9, 1, wrong));
            C.noPlace("a place before both", () -> x.descent(-1, 1, wrong));
        }
    }

    private static void rangesOfTimesAndExponent() {
        Transseria x = Rooms.withOrdinals(Rooms.EIGHT, "0", "w^3*2+5");
        for (int k = 0; k < 8; k++) {
            C.due("times " + k, x.times(0, k), 1);
            x.exponent(3, 0, k);
            C.text("exponent " + k, Rooms.text(x, 3), String.valueOf(8 - k));
        }
        C.due("the last times", x.times(2, 1), 5);
        x.exponent(3, 2, 1);
        C.text("the last exponent", Rooms.text(x, 3), "0");
        for (int wrong : new int[] {8, 9, Integer.MAX_VALUE}) {
            C.noState("no times " + wrong, () -> x.times(0, wrong));
            C.noState("no exponent " + wrong, () -> x.exponent(3, 0, wrong));
        }
        C.noState("no times 2", () -> x.times(2, 2));
        C.noState("no exponent 2", () -> x.exponent(3, 2, 2));
        C.noState("no times 0 of 0", () -> x.times(1, 0));
        C.noState("no exponent 0 of 0", () -> x.exponent(3, 1, 0));
        for (int wrong : BELOW_0) {
            for (int one : new int[] {0, 1, 9, 16}) {
                C.noPlace("times " + wrong + " of " + one, () -> x.times(one, wrong));
                C.noPlace("exponent " + wrong + " of " + one, () -> x.exponent(3, one, wrong));
            }
        }
        C.text("what refused exponents leave", Rooms.text(x, 3), "0");
    }

    private static void rangesOfCut() {
        Transseria x = filled(NUMBER);
        C.due("no lows, no highs", x.cut(0, 0, 0), 0);
        C.due("all lows", x.cut(0, 65535, 0), 2);
        C.due("all highs", x.cut(0, 0, 65535), 0);
        C.due("all highs, 0 among them", x.cut(0, 0, 65535), 1);
        for (int wrong : new int[] {-1, 65536, 65537, Integer.MIN_VALUE, Integer.MAX_VALUE}) {
            C.noArgument("lows " + wrong, () -> x.cut(0, wrong, 0));
            C.noArgument("highs " + wrong, () -> x.cut(0, 0, wrong));
            C.noPlace("a place before the lows", () -> x.cut(16, wrong, 0));
            C.noPlace("a place before the highs", () -> x.cut(-1, 0, wrong));
            C.noArgument("highs before lows that are no numbers", () -> new Transseria().cut(0, 1, wrong));
            C.noArgument("lows before highs that are no numbers", () -> new Transseria().cut(0, wrong, 1));
        }
        C.due("what refused cuts leave", x.parts(0), -Rooms.ONE);
        C.noPlace("a place before what is no number", () -> new Transseria().cut(16, 1, 0));
    }

    private static void rangeOfSignOf() {
        Transseria x = new Transseria();
        x.number(0, -3, 0);
        C.due("the first sign", x.signOf(0, 0), -1);
        C.due("the last sign", x.signOf(0, 2), -1);
        C.due("the first that is not there", x.signOf(0, 3), 0);
        C.due("the greatest of all", x.signOf(0, Integer.MAX_VALUE), 0);
        for (int wrong : BELOW_0) {
            for (int one : new int[] {0, 9, 16}) {
                C.noPlace("sign " + wrong + " of " + one, () -> x.signOf(one, wrong));
            }
        }
    }

    private static void rangesOfPart() {
        Transseria x = Rooms.withGrowths(Rooms.powersOfX(5, 1, 20), "0");
        C.due("times of the first part", x.part(0, 0, 0), 5);
        C.due("x of the first part", x.part(0, 0, 2), 20);
        C.due("log log of the first part", x.part(0, 0, 4), 0);
        C.due("x of the last part", x.part(0, 19, 2), 1);
        C.noState("part 20", () -> x.part(0, 20, 0));
        C.noState("the greatest of all", () -> x.part(0, Integer.MAX_VALUE, 4));
        C.noState("part 0 of 0", () -> x.part(1, 0, 0));
        for (int wrong : new int[] {-1, 5, Integer.MIN_VALUE, Integer.MAX_VALUE}) {
            C.noArgument("what " + wrong, () -> x.part(0, 0, wrong));
            C.noArgument("an argument before too few parts", () -> x.part(0, 20, wrong));
            C.noArgument("an argument before the state", () -> x.part(9, 0, wrong));
            C.noPlace("a place before all", () -> x.part(16, 0, wrong));
            C.noPlace("a row before all", () -> x.part(9, -1, wrong));
        }
        for (int wrong : BELOW_0) {
            for (int one : new int[] {0, 1, 9, 16}) {
                C.noPlace("part " + wrong + " of " + one, () -> x.part(one, wrong, 0));
            }
        }
    }

    // ---- what places hold

    private static void asksForKind(String what, int kind, Making.Call call) {
        for (int held = NOTHING; held <= GROWTH; held++) {
            Transseria x = filled(kind);
            put(x, 0, held);
            if (held != kind) {
                C.noState(what + " of " + held, () -> call.run(x, 0));
                C.due(what + ": what it held", x.kind(0), held);
                C.due(what + ": what another place held", x.kind(5), kind);
            } else {
                call.run(x, 0);
            }
        }
    }

    private static void unlikeThings() {
        for (int kind = ORDINAL; kind <= GROWTH; kind++) {
            asksForKind("sum of one", kind, (x, p) -> x.sum(5, p, 1));
            asksForKind("sum of other", kind, (x, p) -> x.sum(5, 1, p));
            asksForKind("product of one", kind, (x, p) -> x.product(5, p, 1));
            asksForKind("product of other", kind, (x, p) -> x.product(5, 1, p));
            asksForKind("compare one", kind, (x, p) -> x.compare(p, 1));
            asksForKind("compare other", kind, (x, p) -> x.compare(1, p));
            if (kind != ORDINAL) {
                asksForKind("difference of one", kind, (x, p) -> x.difference(5, p, 1));
                asksForKind("difference of other", kind, (x, p) -> x.difference(5, 1, p));
            }
        }
        for (boolean isProduct : new boolean[] {false, true}) {
            asksForKind("natural of one", ORDINAL, (x, p) -> x.natural(5, p, 1, isProduct));
            asksForKind("natural of other", ORDINAL, (x, p) -> x.natural(5, 1, p, isProduct));
        }
        asksForKind("omega", ORDINAL, (x, p) -> x.omega(5, p));
        asksForKind("step", ORDINAL, (x, p) -> x.step(5, p, 1));
        asksForKind("descent", ORDINAL, (x, p) -> x.descent(p, 1, 0));
        asksForKind("powers", ORDINAL, Transseria::powers);
        asksForKind("times", ORDINAL, (x, p) -> x.times(p, 0));
        asksForKind("exponent", ORDINAL, (x, p) -> x.exponent(5, p, 0));
        asksForKind("lows", NUMBER, (x, p) -> x.cut(5, 1 << p, 0));
        asksForKind("highs", NUMBER, (x, p) -> x.cut(5, 0, 1 << p));
        asksForKind("birthday", NUMBER, Transseria::birthday);
        asksForKind("signOf", NUMBER, (x, p) -> x.signOf(p, 0));
        asksForKind("parts", NUMBER, Transseria::parts);
        asksForKind("derive", GROWTH, (x, p) -> x.derive(5, p));
        asksForKind("tends", GROWTH, Transseria::tends);
        asksForKind("terms", GROWTH, Transseria::terms);
        asksForKind("part", GROWTH, (x, p) -> x.part(p, 0, 0));
        bothHoldNothing();
    }

    private static void bothHoldNothing() {
        Transseria x = filled(ORDINAL);
        x.clear(0);
        x.clear(1);
        for (int other : new int[] {0, 1}) {
            C.noState("sum of nothing", () -> x.sum(5, 0, other));
            C.noState("product of nothing", () -> x.product(5, 0, other));
            C.noState("difference of nothing", () -> x.difference(5, 0, other));
            C.noState("natural sum of nothing", () -> x.natural(5, 0, other, false));
            C.noState("natural product of nothing", () -> x.natural(5, 0, other, true));
            C.noState("compare nothing", () -> x.compare(0, other));
        }
        C.noState("difference of ordinals", () -> x.difference(5, 2, 3));
        C.noState("difference of an ordinal and itself", () -> x.difference(5, 2, 2));
        C.due("what stays", x.kind(5), ORDINAL);
    }
}
