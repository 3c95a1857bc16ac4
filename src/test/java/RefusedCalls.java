/** "A call that throws an exception changes nothing": all places are read back behind every kind of refused call. */
public final class RefusedCalls {
    private static final Check C = new Check();
    private static final Class<? extends RuntimeException> PLACE = IndexOutOfBoundsException.class;
    private static final Class<? extends RuntimeException> ARGUMENT = IllegalArgumentException.class;
    private static final Class<? extends RuntimeException> STATE = IllegalStateException.class;

    // What the places of a full room hold.
    private static final int ZERO = 0, MILLION = 1, TOWER = 2, EIGHT_AND_MORE = 3, GREAT_EXPONENT = 4, LONG_EXPONENT = 5;
    private static final int TWENTY = 6, FAR_PART = 7, NO_PART = 8, EXP_X = 9;
    private static final int GREATEST = 10, LEAST = 11, SMALL = 12, NUMBER_0 = 13, NONE = 14, OMEGA = 15;
    private static final int[] TARGETS = {ZERO, TOWER, EIGHT_AND_MORE, TWENTY, GREATEST, NONE};

    private static final String AT_ONCE = reading(null, 0, false);
    private static final String LATER = reading(null, 0, true);

    public static void main(String[] args) {
        noPlaces();
        arguments();
        ordinalsThatDoNotFit();
        ordinalsThatAreNone();
        descents();
        numbers();
        growths();
        unlikeThings();
        looksChangeNothing();
        C.end("RefusedCalls");
    }

    private static Transseria fullRoom() {
        Transseria x = new Transseria();
        Rooms.ordinal(x, MILLION, "1000000");
        Rooms.ordinal(x, TOWER, "w^(w^(w^(w)))");
        Rooms.powersFrom(x, LONG_EXPONENT, 1, 8);
        x.finite(OMEGA, 1);
        x.omega(OMEGA, OMEGA);
        x.sum(EIGHT_AND_MORE, LONG_EXPONENT, OMEGA);
        x.omega(LONG_EXPONENT, LONG_EXPONENT);
        x.omega(GREAT_EXPONENT, MILLION);
        Rooms.xPowers(x, TWENTY, 1, 20);
        Rooms.growth(x, FAR_PART, "100000000:99,-99,99,-99");
        x.term(NO_PART, 0, 0, 0, 0, 0);
        x.term(EXP_X, 1, 1, 0, 0, 0);
        x.number(GREATEST, 256, 0);
        x.number(LEAST, -256, 0);
        x.number(SMALL, 1, 20);
        x.number(NUMBER_0, 0, 0);
        x.clear(NONE);
        x.finite(ZERO, 1);
        x.omega(OMEGA, ZERO);
        x.finite(ZERO, 0);
        return x;
    }

    /** A place a room, for a look at exponents uses others. */
    private static String reading(Making.Call call, int target, boolean later) {
        StringBuilder text = new StringBuilder();
        for (int place = 0; place < 16; place++) {
            Transseria x = fullRoom();
            if (call != null) {
                text.append(refuses(call, x, target) ? "" : "the call answers\n");
            }
            if (later) {
                goOn(x);
            }
            if (place >= 10 && x.kind(place) == Transseria.ORDINAL) {
                x.finite(0, 0);
                x.natural(0, 0, place, false);
                text.append(Rooms.text(x, 0)).append('\n');
            } else {
                text.append(Rooms.text(x, place)).append('\n');
            }
        }
        return text.toString();
    }

    private static boolean refuses(Making.Call call, Transseria x, int target) {
        try {
            call.run(x, target);
            return false;
        } catch (IndexOutOfBoundsException | IllegalArgumentException | IllegalStateException e) {
            return true;
        }
    }

    /** Calls that use most of what the places hold, one behind the other. */
    private static void goOn(Transseria x) {
        x.sum(ZERO, OMEGA, MILLION);
        x.natural(MILLION, ZERO, OMEGA, true);
        x.step(TOWER, TOWER, 7);
        x.omega(NONE, ZERO);
        x.product(OMEGA, OMEGA, ZERO);
        x.step(EIGHT_AND_MORE, LONG_EXPONENT, 3);
        x.exponent(LONG_EXPONENT, LONG_EXPONENT, 0);
        x.derive(TWENTY, TWENTY);
        x.product(EXP_X, EXP_X, TWENTY);
        x.sum(NO_PART, NO_PART, TWENTY);
        x.difference(LEAST, NUMBER_0, LEAST);
        x.cut(GREATEST, 1 << SMALL, 1 << GREATEST);
    }

    private static void refused(String what, Class<? extends RuntimeException> want, Making.Call call) {
        for (int target : TARGETS) {
            Transseria x = fullRoom();
            String where = what + " into " + target;
            C.refused(where, want, () -> call.run(x, target));
            C.text(where + ": all that is held", reading(call, target, false), AT_ONCE);
            C.text(where + ": all that is made later", reading(call, target, true), LATER);
        }
    }

    private static void noPlaces() {
        for (int wrong : new int[] {-1, 16}) {
            refused("kind", PLACE, (x, p) -> x.kind(wrong));
            refused("clear", PLACE, (x, p) -> x.clear(wrong));
            refused("finite", PLACE, (x, p) -> x.finite(wrong, 1));
            refused("omega", PLACE, (x, p) -> x.omega(p, wrong));
            refused("number", PLACE, (x, p) -> x.number(wrong, 1, 0));
            refused("signs", PLACE, (x, p) -> x.signs(wrong, 1, 1));
            refused("term", PLACE, (x, p) -> x.term(wrong, 1, 0, 0, 0, 0));
            refused("sum", PLACE, (x, p) -> x.sum(p, OMEGA, wrong));
            refused("product", PLACE, (x, p) -> x.product(p, wrong, EXP_X));
            refused("difference", PLACE, (x, p) -> x.difference(wrong, SMALL, SMALL));
            refused("natural", PLACE, (x, p) -> x.natural(p, OMEGA, wrong, true));
            refused("derive", PLACE, (x, p) -> x.derive(p, wrong));
            refused("step", PLACE, (x, p) -> x.step(p, wrong, 1));
            refused("cut", PLACE, (x, p) -> x.cut(wrong, 0, 0));
        }
        refused("times", PLACE, (x, p) -> x.times(p, -1));
        refused("exponent", PLACE, (x, p) -> x.exponent(p, TOWER, -1));
        refused("signOf", PLACE, (x, p) -> x.signOf(p, -1));
        refused("part", PLACE, (x, p) -> x.part(p, -1, 0));
    }

    private static void arguments() {
        refused("finite", ARGUMENT, (x, p) -> x.finite(p, -1));
        refused("finite", ARGUMENT, (x, p) -> x.finite(p, 1000001));
        refused("number", ARGUMENT, (x, p) -> x.number(p, 257, 0));
        refused("number", ARGUMENT, (x, p) -> x.number(p, 0, 21));
        refused("signs", ARGUMENT, (x, p) -> x.signs(p, 2, 1));
        refused("signs", ARGUMENT, (x, p) -> x.signs(p, 0, 21));
        refused("signs", ARGUMENT, (x, p) -> x.signs(p, -1, 20));
        refused("term", ARGUMENT, (x, p) -> x.term(p, 1000001, 0, 0, 0, 0));
        refused("term", ARGUMENT, (x, p) -> x.term(p, 0, 0, 0, 0, -21));
        refused("step", ARGUMENT, (x, p) -> x.step(p, TOWER, 0));
        refused("step", ARGUMENT, (x, p) -> x.step(p, TOWER, 100));
        refused("descent", ARGUMENT, (x, p) -> x.descent(p, 100, 5));
        refused("descent", ARGUMENT, (x, p) -> x.descent(p, 1, 2001));
        refused("cut", ARGUMENT, (x, p) -> x.cut(p, -1, 0));
        refused("cut", ARGUMENT, (x, p) -> x.cut(p, 0, 65536));
        refused("part", ARGUMENT, (x, p) -> x.part(p, 0, 5));
    }

    private static void ordinalsThatDoNotFit() {
        refused("omega to depth 5", STATE, (x, p) -> x.omega(p, TOWER));
        refused("sum of too many times", STATE, (x, p) -> x.sum(p, MILLION, MILLION));
        refused("sum of too many powers", STATE, (x, p) -> x.sum(p, EIGHT_AND_MORE, MILLION));
        refused("product of too many times", STATE, (x, p) -> x.product(p, MILLION, MILLION));
        refused("product with too great an exponent", STATE, (x, p) -> x.product(p, GREAT_EXPONENT, OMEGA));
        refused("product with too great an exponent", STATE, (x, p) -> x.product(p, OMEGA, GREAT_EXPONENT));
        refused("natural sum of too many times", STATE, (x, p) -> x.natural(p, MILLION, MILLION, false));
        refused("natural sum of too many powers", STATE, (x, p) -> x.natural(p, TOWER, EIGHT_AND_MORE, false));
        refused("natural product of too many powers", STATE, (x, p) -> x.natural(p, EIGHT_AND_MORE, EIGHT_AND_MORE, true));
        refused("natural product with too great an exponent", STATE, (x, p) -> x.natural(p, GREAT_EXPONENT, OMEGA, true));
        refused("natural product with too great an exponent", STATE, (x, p) -> x.natural(p, OMEGA, GREAT_EXPONENT, true));
        refused("step to too many powers", STATE, (x, p) -> x.step(p, EIGHT_AND_MORE, 1));
    }

    private static void ordinalsThatAreNone() {
        refused("step of 0", STATE, (x, p) -> x.step(p, ZERO, 1));
        refused("times of 0", STATE, (x, p) -> x.times(ZERO, 0));
        refused("times behind the last", STATE, (x, p) -> x.times(EIGHT_AND_MORE, 8));
        refused("exponent of 0", STATE, (x, p) -> x.exponent(p, ZERO, 0));
        refused("exponent behind the last", STATE, (x, p) -> x.exponent(p, EIGHT_AND_MORE, 8));
        refused("omega to nothing", STATE, (x, p) -> x.omega(p, NONE));
        refused("step of a number", STATE, (x, p) -> x.step(p, SMALL, 1));
        refused("exponent of a growth", STATE, (x, p) -> x.exponent(p, TWENTY, 0));
        refused("natural sum with a number", STATE, (x, p) -> x.natural(p, OMEGA, SMALL, false));
        refused("powers of a growth", STATE, (x, p) -> x.powers(TWENTY));
        refused("times of a number", STATE, (x, p) -> x.times(SMALL, 0));
    }

    private static void descents() {
        refused("descent to too many powers", STATE, (x, p) -> x.descent(EIGHT_AND_MORE, 1, 1));
        refused("long descent to too many powers", STATE, (x, p) -> x.descent(EIGHT_AND_MORE, 99, 2000));
        refused("descent to too many powers in the end", STATE, (x, p) -> x.descent(TOWER, 3, 2000));
        refused("descent to too many powers of an exponent", STATE, (x, p) -> x.descent(LONG_EXPONENT, 1, 2000));
        refused("descent from nothing", STATE, (x, p) -> x.descent(NONE, 1, 0));
        refused("descent from a number", STATE, (x, p) -> x.descent(SMALL, 1, 0));
    }

    private static void numbers() {
        refused("sum above 256", STATE, (x, p) -> x.sum(p, GREATEST, SMALL));
        refused("difference below -256", STATE, (x, p) -> x.difference(p, LEAST, SMALL));
        refused("product below -256", STATE, (x, p) -> x.product(p, GREATEST, LEAST));
        refused("product of less than a part", STATE, (x, p) -> x.product(p, SMALL, SMALL));
        refused("cut above 256", STATE, (x, p) -> x.cut(p, 1 << GREATEST, 0));
        refused("cut below -256", STATE, (x, p) -> x.cut(p, 0, 1 << LEAST));
        refused("cut of less than a part", STATE, (x, p) -> x.cut(p, 1 << NUMBER_0, 1 << SMALL));
        refused("cut the wrong way", STATE, (x, p) -> x.cut(p, 1 << SMALL, 1 << LEAST | 1 << GREATEST));
        refused("cut above an ordinal", STATE, (x, p) -> x.cut(p, 1 << SMALL | 1 << OMEGA, 0));
        refused("cut below nothing", STATE, (x, p) -> x.cut(p, 0, 1 << SMALL | 1 << NONE));
        refused("birthday of an ordinal", STATE, (x, p) -> x.birthday(OMEGA));
        refused("signOf of a growth", STATE, (x, p) -> x.signOf(TWENTY, 0));
        refused("parts of nothing", STATE, (x, p) -> x.parts(NONE));
    }

    private static void growths() {
        refused("sum of too many parts", STATE, (x, p) -> x.sum(p, TWENTY, EXP_X));
        refused("sum of too many times", STATE, (x, p) -> x.sum(p, FAR_PART, FAR_PART));
        refused("difference of too many parts", STATE, (x, p) -> x.difference(p, TWENTY, EXP_X));
        refused("product of too many parts", STATE, (x, p) -> x.product(p, TWENTY, TWENTY));
        refused("product of too many times, and too great exponents", STATE, (x, p) -> x.product(p, FAR_PART, FAR_PART));
        refused("product with too great exponents", STATE, (x, p) -> x.product(p, FAR_PART, EXP_X));
        refused("derivative of too many times", STATE, (x, p) -> x.derive(p, FAR_PART));
        refused("derivative of an ordinal", STATE, (x, p) -> x.derive(p, OMEGA));
        refused("part behind the last", STATE, (x, p) -> x.part(TWENTY, 20, 0));
        refused("part of 0", STATE, (x, p) -> x.part(NO_PART, 0, 0));
        refused("tends of a number", STATE, (x, p) -> x.tends(SMALL));
        refused("terms of nothing", STATE, (x, p) -> x.terms(NONE));
    }

    private static void unlikeThings() {
        refused("sum of unlike things", STATE, (x, p) -> x.sum(p, OMEGA, SMALL));
        refused("sum of nothing", STATE, (x, p) -> x.sum(p, NONE, NONE));
        refused("product of unlike things", STATE, (x, p) -> x.product(p, EXP_X, SMALL));
        refused("product with nothing", STATE, (x, p) -> x.product(p, EXP_X, NONE));
        refused("difference of ordinals", STATE, (x, p) -> x.difference(p, OMEGA, OMEGA));
        refused("difference of unlike things", STATE, (x, p) -> x.difference(p, SMALL, EXP_X));
        refused("comparison of unlike things", STATE, (x, p) -> x.compare(SMALL, OMEGA));
        refused("comparison with nothing", STATE, (x, p) -> x.compare(NONE, OMEGA));
    }

    /** Calls that only tell of something leave all as it is too. */
    private static void looksChangeNothing() {
        Transseria x = fullRoom();
        for (int place = 0; place < 16; place++) {
            x.kind(place);
            x.compare(place == NONE ? 0 : place, place == NONE ? 0 : place);
        }
        C.due("descent that comes to 0", x.descent(OMEGA, 99, 2000), 100);
        C.due("descent that does not", x.descent(MILLION, 1, 2000), Transseria.NONE);
        C.due("descent by none", x.descent(TOWER, 1, 0), Transseria.NONE);
        C.due("birthday", x.birthday(SMALL), 21);
        C.due("sign", x.signOf(GREATEST, 255), 1);
        C.due("tends", x.tends(FAR_PART), Transseria.RISES);
        C.text("the tower stays", Rooms.text(x, TOWER), "w^(w^(w^(w)))");
        C.text("eight powers and more stay", Rooms.text(x, EIGHT_AND_MORE), Rooms.EIGHT + "*2");
        C.text("the far part stays", Rooms.text(x, FAR_PART), "100000000:99,-99,99,-99");
    }
}
