/** One test a promise: ordinary arguments, the edges that the document names, and wrong ones. */
public final class PromiseTests {
    private static final Check C = new Check();
    private static final int ONE = Rooms.ONE;

    public static void main(String[] args) {
        promise01new();
        promise02kind();
        promise03clear();
        promise04finite();
        promise05omega();
        promise06number();
        promise07signs();
        promise08term();
        promise09sum();
        promise09sumThatDoesNotFit();
        promise10product();
        promise10productOfGrowths();
        promise10productThatIsLongOnTheWay();
        promise11difference();
        promise12natural();
        promise12naturalThatDoesNotFit();
        promise13derive();
        promise14compare();
        promise15step();
        promise16descent();
        promise16descentThatDoesNotFit();
        promise17powers();
        promise18times();
        promise19exponent();
        promise20cut();
        promise20cutThatIsRefused();
        promise21birthday();
        promise22signOf();
        promise23parts();
        promise24tends();
        promise25terms();
        promise26part();
        C.end("PromiseTests");
    }

    // ---- what many tests begin with

    /** 0 the ordinal 0, 1 to 3 finite ones, 4 omega, 5 omega to omega. */
    private static Transseria withOrdinals() {
        Transseria x = new Transseria();
        for (int k = 0; k <= 3; k++) {
            x.finite(k, k);
        }
        x.omega(4, 1);
        x.omega(5, 4);
        return x;
    }

    private static void ordinalIs(String what, Transseria x, int place, int... exponentsAndTimes) {
        C.due(what + ": powers", x.powers(place), exponentsAndTimes.length / 2);
        for (int k = 0; k < exponentsAndTimes.length / 2 && k < x.powers(place); k++) {
            x.exponent(14, place, k);
            long exponent = x.powers(14) == 0 ? 0 : x.times(14, 0);
            C.due(what + ": exponent " + k, exponent, exponentsAndTimes[2 * k]);
            C.due(what + ": times " + k, x.times(place, k), exponentsAndTimes[2 * k + 1]);
        }
    }

    private static void partIs(String what, Transseria x, int place, int k, int... timesAndExponents) {
        for (int m = 0; m < 5; m++) {
            C.due(what + ": part " + k + ", " + m, x.part(place, k, m), timesAndExponents[m]);
        }
    }

    private static void same(String what, Transseria x, int one, int other) {
        C.due(what, x.compare(one, other), 0);
    }

    // ---- places

    private static void promise01new() {
        Transseria x = new Transseria();
        for (int k = 0; k < 16; k++) {
            C.due("new: kind(" + k + ")", x.kind(k), Transseria.NOTHING);
        }
        Transseria y = new Transseria();
        x.finite(3, 4);
        C.due("another object is for itself", y.kind(3), Transseria.NOTHING);
    }

    private static void promise02kind() {
        Transseria x = Rooms.withOneOfEach();
        C.due("kind of an ordinal", x.kind(0), Transseria.ORDINAL);
        C.due("kind of a number", x.kind(1), Transseria.NUMBER);
        C.due("kind of a growth", x.kind(2), Transseria.GROWTH);
        C.due("kind of nothing", x.kind(3), Transseria.NOTHING);
        x.number(0, 0, 0);
        C.due("kind after another thing came", x.kind(0), Transseria.NUMBER);
        x.term(15, 0, 0, 0, 0, 0);
        C.due("kind at 15 of the growth 0", x.kind(15), Transseria.GROWTH);
        for (int wrong : Rooms.WRONG_PLACES) {
            C.noPlace("kind(" + wrong + ")", () -> x.kind(wrong));
        }
    }

    private static void promise03clear() {
        Transseria x = Rooms.withOneOfEach();
        C.due("clear an ordinal", x.clear(0), Transseria.ORDINAL);
        C.due("clear a number", x.clear(1), Transseria.NUMBER);
        C.due("clear a growth", x.clear(2), Transseria.GROWTH);
        for (int k = 0; k < 4; k++) {
            C.due("cleared: kind", x.kind(k), Transseria.NOTHING);
            C.due("clear nothing", x.clear(k), Transseria.NOTHING);
        }
        C.noState("powers of what is gone", () -> x.powers(0));
        C.noState("parts of what is gone", () -> x.parts(1));
        C.noState("terms of what is gone", () -> x.terms(2));
        for (int wrong : Rooms.WRONG_PLACES) {
            C.noPlace("clear(" + wrong + ")", () -> x.clear(wrong));
        }
    }

    // ---- making

    private static void promise04finite() {
        Transseria x = new Transseria();
        x.finite(0, 0);
        ordinalIs("finite 0", x, 0);
        x.finite(0, 1);
        ordinalIs("finite 1", x, 0, 0, 1);
        x.finite(15, 1000000);
        ordinalIs("finite 1000000", x, 15, 0, 1000000);
        C.noArgument("finite(0, -1)", () -> x.finite(0, -1));
        C.noArgument("finite(0, 1000001)", () -> x.finite(0, 1000001));
        C.noPlace("a place first", () -> x.finite(16, -1));
        for (int wrong : Rooms.WRONG_PLACES) {
            C.noPlace("finite(" + wrong + ", 1)", () -> x.finite(wrong, 1));
        }
        ordinalIs("what refused calls leave", x, 0, 0, 1);
    }

    private static void promise05omega() {
        Transseria x = new Transseria();
        x.finite(0, 0);
        x.omega(1, 0);
        ordinalIs("omega to 0", x, 1, 0, 1);
        x.finite(2, 7);
        x.omega(2, 2);
        ordinalIs("omega to 7, of what the place held", x, 2, 7, 1);
        x.omega(3, 1);
        for (int depth = 3; depth <= 5; depth++) {
            x.omega(3, 3);
        }
        C.noState("a depth of 6", () -> x.omega(3, 3));
        C.noState("a depth of 6 elsewhere", () -> x.omega(4, 3));
        C.due("nothing came", x.kind(4), Transseria.NOTHING);
        C.due("what stays", x.powers(3), 1);
        Transseria y = Rooms.withOneOfEach();
        for (int k = 1; k <= 3; k++) {
            int place = k;
            C.noState("omega to no ordinal", () -> y.omega(0, place));
        }
        for (int wrong : Rooms.WRONG_PLACES) {
            C.noPlace("omega(" + wrong + ", 0)", () -> y.omega(wrong, 0));
            C.noPlace("omega(0, " + wrong + ")", () -> y.omega(0, wrong));
        }
        C.noPlace("a place first", () -> y.omega(16, 1));
    }

    private static void promise06number() {
        Transseria x = new Transseria();
        x.number(0, -3, 1);
        C.due("-3/2", x.parts(0), -3L * ONE / 2);
        x.number(0, 256, 0);
        C.due("256", x.parts(0), 256L * ONE);
        x.number(0, -268435456, 20);
        C.due("-256", x.parts(0), -256L * ONE);
        x.number(0, 1, 20);
        C.due("a part", x.parts(0), 1);
        C.noArgument("257", () -> x.number(0, 257, 0));
        C.noArgument("-257", () -> x.number(0, -257, 0));
        C.noArgument("a part above 256", () -> x.number(0, 268435457, 20));
        C.noArgument("a part below -256", () -> x.number(0, -268435457, 20));
        C.noArgument("far above", () -> x.number(0, Integer.MAX_VALUE, 0));
        C.noArgument("far below", () -> x.number(0, Integer.MIN_VALUE, 20));
        C.noArgument("power -1", () -> x.number(0, 0, -1));
        C.noArgument("power 21", () -> x.number(0, 0, 21));
        C.noPlace("a place first", () -> x.number(-1, 257, 21));
        for (int wrong : Rooms.WRONG_PLACES) {
            C.noPlace("number(" + wrong + ", 1, 1)", () -> x.number(wrong, 1, 1));
        }
        C.due("what refused calls leave", x.parts(0), 1);
    }

    private static void promise07signs() {
        Transseria x = new Transseria();
        x.signs(0, 0, 0);
        C.due("no signs", x.parts(0), 0);
        x.signs(0, 7, 3);
        C.due("+++", x.parts(0), 3L * ONE);
        x.signs(0, 0, 2);
        C.due("--", x.parts(0), -2L * ONE);
        x.signs(0, 1, 2);
        C.due("+-", x.parts(0), ONE / 2);
        x.signs(0, 2, 2);
        C.due("-+", x.parts(0), -ONE / 2);
        x.signs(0, 11, 4);
        C.due("++-+", x.parts(0), ONE + 3L * ONE / 4);
        x.signs(0, 9, 4);
        C.due("+--+", x.parts(0), 3L * ONE / 8);
        x.signs(0, (1 << 20) - 1, 20);
        C.due("20 times +", x.parts(0), 20L * ONE);
        x.signs(0, (1 << 20) - 2, 20);
        C.due("-, and 19 times +", x.parts(0), -2);
        C.noArgument("length -1", () -> x.signs(0, 0, -1));
        C.noArgument("length 21", () -> x.signs(0, 0, 21));
        C.noArgument("length 33", () -> x.signs(0, 0, 33));
        C.noArgument("row below 0", () -> x.signs(0, -1, 20));
        C.noArgument("a bit beyond none", () -> x.signs(0, 1, 0));
        C.noArgument("a bit beyond 20", () -> x.signs(0, 1 << 20, 20));
        C.noPlace("a place first", () -> x.signs(16, -1, 21));
        for (int wrong : Rooms.WRONG_PLACES) {
            C.noPlace("signs(" + wrong + ", 1, 1)", () -> x.signs(wrong, 1, 1));
        }
        C.due("what refused calls leave", x.parts(0), -2);
    }

    private static void promise08term() {
        Transseria x = new Transseria();
        x.term(0, -5, 1, -2, 3, -4);
        C.due("terms of a part", x.terms(0), 1);
        partIs("a part", x, 0, 0, -5, 1, -2, 3, -4);
        x.term(0, 0, 1, 1, 1, 1);
        C.due("terms of 0", x.terms(0), 0);
        x.term(0, -1000000, -20, 20, -20, 20);
        partIs("the ends", x, 0, 0, -1000000, -20, 20, -20, 20);
        x.term(0, 1000000, 20, -20, 20, -20);
        partIs("the other ends", x, 0, 0, 1000000, 20, -20, 20, -20);
        C.noArgument("times above", () -> x.term(0, 1000001, 0, 0, 0, 0));
        C.noArgument("times below", () -> x.term(0, -1000001, 0, 0, 0, 0));
        for (int wrong : new int[] {-21, 21, Integer.MIN_VALUE}) {
            C.noArgument("exp " + wrong, () -> x.term(0, 0, wrong, 0, 0, 0));
            C.noArgument("x " + wrong, () -> x.term(0, 1, 0, wrong, 0, 0));
            C.noArgument("log " + wrong, () -> x.term(0, 1, 0, 0, wrong, 0));
            C.noArgument("loglog " + wrong, () -> x.term(0, 1, 0, 0, 0, wrong));
        }
        C.noPlace("a place first", () -> x.term(16, 1000001, 21, 0, 0, 0));
        for (int wrong : Rooms.WRONG_PLACES) {
            C.noPlace("term(" + wrong + ", ..)", () -> x.term(wrong, 1, 0, 0, 0, 0));
        }
        partIs("what refused calls leave", x, 0, 0, 1000000, 20, -20, 20, -20);
    }

    // ---- reckoning

    private static void promise09sum() {
        Transseria x = withOrdinals();
        C.due("2 + omega", x.sum(6, 2, 4), Transseria.ORDINAL);
        same("2 + omega is omega", x, 6, 4);
        x.sum(6, 4, 2);
        ordinalIs("omega + 2", x, 6, 1, 1, 0, 2);
        x.sum(7, 6, 6);
        ordinalIs("(omega + 2) + (omega + 2)", x, 7, 1, 2, 0, 2);
        x.sum(7, 7, 0);
        ordinalIs("a + 0", x, 7, 1, 2, 0, 2);
        x.sum(7, 0, 7);
        ordinalIs("0 + a, where a stood", x, 7, 1, 2, 0, 2);
        x.sum(8, 5, 7);
        C.due("powers of omega to omega + a", x.powers(8), 3);
        x.sum(8, 7, 5);
        same("a + omega to omega", x, 8, 5);
        x.sum(8, 0, 0);
        ordinalIs("0 + 0", x, 8);
        x.number(9, -5, 1);
        x.number(10, 3, 2);
        C.due("sum of numbers", x.sum(9, 9, 10), Transseria.NUMBER);
        C.due("-5/2 + 3/4", x.parts(9), -7L * ONE / 4);
        x.term(11, 2, 0, 1, 0, 0);
        x.term(12, -2, 0, 1, 0, 0);
        x.term(13, 1, 1, -1, 0, 0);
        C.due("sum of growths", x.sum(13, 11, 13), Transseria.GROWTH);
        partIs("the greater part first", x, 13, 0, 1, 1, -1, 0, 0);
        partIs("the lesser part behind", x, 13, 1, 2, 0, 1, 0, 0);
        x.sum(13, 12, 13);
        C.due("parts that are gone together", x.terms(13), 1);
    }

    private static void promise09sumThatDoesNotFit() {
        Transseria x = new Transseria();
        x.finite(0, 999999);
        x.finite(1, 1);
        x.sum(0, 0, 1);
        C.due("1000000 times", x.times(0, 0), 1000000);
        C.noState("1000001 times", () -> x.sum(2, 0, 1));
        Rooms.powersFrom(x, 3, 1, 8);
        C.due("8 powers", x.powers(3), 8);
        C.noState("9 powers", () -> x.sum(3, 3, 1));
        C.due("8 powers stay", x.powers(3), 8);
        x.number(4, 256, 0);
        x.number(5, 1, 20);
        C.noState("256 and a part", () -> x.sum(4, 4, 5));
        x.number(6, -1, 20);
        x.sum(4, 4, 6);
        x.sum(4, 4, 5);
        C.due("256 still fits", x.parts(4), 256L * ONE);
        Rooms.xPowers(x, 7, 1, 20);
        x.term(8, 1, 0, 0, 0, 0);
        C.due("20 parts", x.terms(7), 20);
        C.noState("21 parts", () -> x.sum(7, 7, 8));
        x.term(9, -1, 0, 7, 0, 0);
        x.sum(9, 7, 9);
        x.sum(9, 9, 8);
        C.due("20 other parts", x.terms(9), 20);
        Transseria y = Rooms.withOneOfEach();
        for (int one = 0; one < 4; one++) {
            for (int other = 0; other < 4; other++) {
                int a = one;
                int b = other;
                if (a != b || a == 3) {
                    C.noState("sum of unlike things", () -> y.sum(0, a, b));
                }
            }
        }
        for (int wrong : Rooms.WRONG_PLACES) {
            C.noPlace("sum(" + wrong + ", 3, 3)", () -> y.sum(wrong, 3, 3));
            C.noPlace("sum(0, " + wrong + ", 3)", () -> y.sum(0, wrong, 3));
            C.noPlace("sum(0, 3, " + wrong + ")", () -> y.sum(0, 3, wrong));
        }
    }

    private static void promise10product() {
        Transseria x = withOrdinals();
        C.due("2 times omega", x.product(6, 2, 4), Transseria.ORDINAL);
        same("2 times omega is omega", x, 6, 4);
        x.product(6, 4, 2);
        ordinalIs("omega times 2", x, 6, 1, 2);
        x.sum(6, 6, 3);
        x.sum(7, 4, 2);
        x.product(8, 6, 7);
        ordinalIs("(omega 2 + 3)(omega + 2)", x, 8, 2, 1, 1, 4, 0, 3);
        x.product(8, 7, 6);
        ordinalIs("(omega + 2)(omega 2 + 3)", x, 8, 2, 2, 1, 3, 0, 2);
        x.product(8, 0, 5);
        ordinalIs("0 times a", x, 8);
        x.product(8, 5, 0);
        ordinalIs("a times 0", x, 8);
        x.product(8, 4, 5);
        same("omega times omega to omega", x, 8, 5);
        x.finite(9, 1000000);
        x.finite(10, 500000);
        x.product(10, 10, 2);
        same("500000 times 2", x, 10, 9);
        C.noState("1000000 times 2", () -> x.product(10, 9, 2));
        C.noState("1000000 times 1000000", () -> x.product(10, 9, 9));
        Rooms.powersFrom(x, 10, 0, 7);
        C.noState("omega + 1 ahead of 8 powers' tail", () -> x.product(11, 10, 7));
        x.number(11, -3, 1);
        x.number(12, 1, 20);
        C.due("product of numbers", x.product(13, 11, 11), Transseria.NUMBER);
        C.due("-3/2 times itself", x.parts(13), 9L * ONE / 4);
        C.noState("half parts", () -> x.product(13, 11, 12));
        C.noState("less than a part", () -> x.product(13, 12, 12));
        x.number(12, 256, 0);
        C.noState("256 times 256", () -> x.product(13, 12, 12));
        C.noState("256 times -3/2", () -> x.product(13, 12, 11));
        C.due("what refused calls leave", x.parts(13), 9L * ONE / 4);
    }

    private static void promise10productOfGrowths() {
        Transseria x = new Transseria();
        Rooms.xPowers(x, 0, 0, 9);
        x.term(1, 1, 0, 1, 0, 0);
        x.term(2, -1, 0, 0, 0, 0);
        x.sum(1, 1, 2);
        C.due("product of growths", x.product(3, 0, 1), Transseria.GROWTH);
        C.due("x to 10, less 1", x.terms(3), 2);
        partIs("x to 10", x, 3, 0, 1, 0, 10, 0, 0);
        partIs("-1", x, 3, 1, -1, 0, 0, 0, 0);
        x.product(3, 0, 0);
        C.due("19 parts", x.terms(3), 19);
        C.due("10 times x to 9", x.part(3, 9, 0), 10);
        x.product(4, 3, 1);
        C.due("20 parts, by 38 on the way", x.terms(4), 20);
        C.noState("too many parts", () -> x.product(4, 4, 3));
        x.term(5, 0, 0, 0, 0, 0);
        x.product(5, 5, 4);
        C.due("0 times a", x.terms(5), 0);
        x.term(6, 10000, 20, -20, 20, -20);
        x.product(7, 6, 6);
        partIs("100000000 times", x, 7, 0, 100000000, 40, -40, 40, -40);
        x.term(8, 10001, 0, 0, 0, 0);
        C.noState("100010000 times", () -> x.product(8, 6, 8));
        x.term(8, -10001, 0, 0, 0, 0);
        C.noState("-100010000 times", () -> x.product(8, 6, 8));
        x.term(8, 1, 20, 0, 0, 0);
        x.product(9, 8, 8);
        x.product(9, 9, 9);
        x.term(10, 1, 19, 0, 0, 0);
        x.product(10, 9, 10);
        C.due("exp x to 99", x.part(10, 0, 1), 99);
        C.noState("exp x to 100", () -> x.product(10, 9, 8));
        Transseria y = Rooms.withOneOfEach();
        C.noState("unlike things", () -> y.product(0, 0, 1));
        C.noState("nothing", () -> y.product(0, 3, 3));
        for (int wrong : Rooms.WRONG_PLACES) {
            C.noPlace("product(" + wrong + ", 3, 3)", () -> y.product(wrong, 3, 3));
            C.noPlace("product(0, " + wrong + ", 3)", () -> y.product(0, wrong, 3));
            C.noPlace("product(0, 3, " + wrong + ")", () -> y.product(0, 3, wrong));
        }
    }

    /** (1 - x) times ten powers of log x, by twenty powers of x: two hundred parts on the way, twenty in the end. */
    private static void promise10productThatIsLongOnTheWay() {
        Transseria x = new Transseria();
        Rooms.xPowers(x, 0, 0, 19);
        x.term(1, 0, 0, 0, 0, 0);
        for (int k = 0; k < 10; k++) {
            x.term(2, 1, 0, 0, k, 0);
            x.sum(1, 1, 2);
            x.term(2, -1, 0, 1, k, 0);
            x.sum(1, 1, 2);
        }
        x.product(3, 1, 0);
        x.product(4, 0, 1);
        same("both ways", x, 3, 4);
        C.due("twenty parts", x.terms(3), 20);
        for (int k = 0; k < 10; k++) {
            partIs("those with x to 20", x, 3, k, -1, 0, 20, 9 - k, 0);
            partIs("those without x", x, 3, 10 + k, 1, 0, 0, 9 - k, 0);
        }
        x.term(5, 1, 20, 20, 20, 20);
        x.product(5, 5, 5);
        x.product(6, 5, 5);
        C.due("80", x.part(6, 0, 4), 80);
        x.term(7, 0, 0, 0, 0, 0);
        x.product(7, 7, 6);
        C.due("0 by a", x.terms(7), 0);
    }

    private static void promise11difference() {
        Transseria x = Rooms.withOneOfEach();
        x.number(4, 5, 2);
        C.due("difference of numbers", x.difference(5, 1, 4), Transseria.NUMBER);
        C.due("1 - 5/4", x.parts(5), -ONE / 4);
        x.number(6, -256, 0);
        C.noState("-256 - 1", () -> x.difference(5, 6, 1));
        C.due("what a refused call leaves", x.parts(5), -ONE / 4);
        x.difference(5, 6, 6);
        C.due("a - a", x.parts(5), 0);
        x.term(7, 3, 0, 0, 1, 0);
        C.due("difference of growths", x.difference(8, 2, 7), Transseria.GROWTH);
        partIs("the greater one first", x, 8, 0, -3, 0, 0, 1, 0);
        partIs("the lesser one behind", x, 8, 1, 1, 0, 0, 0, 0);
        x.difference(8, 8, 8);
        C.due("a growth less itself", x.terms(8), 0);
        x.term(9, -1000000, 0, 0, 0, 0);
        x.term(10, 100, 0, 0, 0, 0);
        x.product(9, 9, 10);
        C.noState("-100000001", () -> x.difference(9, 9, 2));
        C.noState("of ordinals", () -> x.difference(5, 0, 0));
        C.noState("of unlike things", () -> x.difference(5, 1, 2));
        C.noState("of nothing", () -> x.difference(5, 3, 3));
        for (int wrong : Rooms.WRONG_PLACES) {
            C.noPlace("difference(" + wrong + ", 0, 0)", () -> x.difference(wrong, 0, 0));
            C.noPlace("difference(0, " + wrong + ", 0)", () -> x.difference(0, wrong, 0));
            C.noPlace("difference(0, 0, " + wrong + ")", () -> x.difference(0, 0, wrong));
        }
    }

    private static void promise12natural() {
        Transseria x = withOrdinals();
        x.natural(6, 2, 4, false);
        ordinalIs("2 and omega", x, 6, 1, 1, 0, 2);
        x.natural(7, 6, 6, false);
        ordinalIs("omega + 2 and itself", x, 7, 1, 2, 0, 4);
        x.natural(8, 5, 7, false);
        x.natural(9, 7, 5, false);
        same("both ways", x, 8, 9);
        C.due("three powers", x.powers(8), 3);
        x.natural(8, 0, 7, false);
        same("0 and a", x, 8, 7);
        x.natural(8, 6, 6, true);
        ordinalIs("omega + 2 by itself", x, 8, 2, 1, 1, 4, 0, 4);
        x.sum(9, 5, 4);
        x.natural(8, 9, 6, true);
        C.due("(omega to omega + omega)(omega + 2)", x.powers(8), 4);
        x.exponent(10, 8, 0);
        ordinalIs("its first exponent", x, 10, 1, 1, 0, 1);
        x.exponent(10, 8, 2);
        ordinalIs("its third exponent", x, 10, 0, 2);
        x.natural(10, 6, 9, true);
        same("both ways of the product", x, 8, 10);
        x.natural(8, 8, 0, true);
        ordinalIs("a by 0", x, 8);
        x.natural(6, 4, 5, true);
        x.product(7, 4, 5);
        C.due("more than the product", x.compare(6, 7), 1);
    }

    private static void promise12naturalThatDoesNotFit() {
        Transseria x = Rooms.withOneOfEach();
        Rooms.powersFrom(x, 4, 0, 3);
        Rooms.powersFrom(x, 5, 0, 4);
        x.natural(6, 4, 5, true);
        ordinalIs("4 by 5 powers are 8", x, 6, 7, 1, 6, 2, 5, 3, 4, 4, 3, 4, 2, 3, 1, 2, 0, 1);
        C.noState("5 by 5 powers are 9", () -> x.natural(6, 5, 5, true));
        Rooms.powersFrom(x, 7, 5, 8);
        C.noState("5 and 4 other powers", () -> x.natural(6, 5, 7, false));
        C.due("what refused calls leave", x.powers(6), 8);
        x.finite(8, 500001);
        C.noState("1000002 times", () -> x.natural(8, 8, 8, false));
        C.noState("many times", () -> x.natural(8, 8, 8, true));
        x.finite(8, 500000);
        x.natural(8, 8, 8, false);
        C.due("1000000 times", x.times(8, 0), 1000000);
        x.omega(9, 8);
        C.noState("an exponent does not fit", () -> x.natural(10, 9, 9, true));
        C.due("nothing came", x.kind(10), Transseria.NOTHING);
        for (int k = 1; k <= 3; k++) {
            int place = k;
            C.noState("no ordinal", () -> x.natural(0, place, 0, false));
            C.noState("no ordinal by one", () -> x.natural(0, 0, place, true));
        }
        for (int wrong : Rooms.WRONG_PLACES) {
            C.noPlace("natural(" + wrong + ", 3, 3, true)", () -> x.natural(wrong, 3, 3, true));
            C.noPlace("natural(0, " + wrong + ", 3, true)", () -> x.natural(0, wrong, 3, true));
            C.noPlace("natural(0, 3, " + wrong + ", false)", () -> x.natural(0, 3, wrong, false));
        }
    }

    private static void promise13derive() {
        Transseria x = Rooms.withOneOfEach();
        x.term(4, 2, 3, 4, 5, 6);
        x.derive(5, 4);
        C.due("four parts", x.terms(5), 4);
        partIs("by exp x", x, 5, 0, 6, 3, 4, 5, 6);
        partIs("by x", x, 5, 1, 8, 3, 3, 5, 6);
        partIs("by log x", x, 5, 2, 10, 3, 3, 4, 6);
        partIs("by log log x", x, 5, 3, 12, 3, 3, 4, 5);
        x.derive(2, 2);
        C.due("of a whole number", x.terms(2), 0);
        x.derive(2, 2);
        C.due("of 0", x.terms(2), 0);
        x.term(6, 1, 0, 1, 1, 0);
        x.term(7, -1, 0, 1, 0, 0);
        x.sum(6, 6, 7);
        x.derive(6, 6);
        C.due("x log x - x to log x", x.terms(6), 1);
        partIs("log x", x, 6, 0, 1, 0, 0, 1, 0);
        x.term(8, 1, -20, 0, 0, 0);
        x.term(9, 1000000, 0, 0, 0, 0);
        x.term(10, 100, 0, 0, 0, 0);
        x.product(9, 9, 10);
        x.product(8, 8, 9);
        C.noState("too many times", () -> x.derive(8, 8));
        x.term(11, 1, 0, -20, 0, 0);
        x.product(12, 11, 11);
        x.product(12, 12, 12);
        x.term(11, 1, 0, -19, 0, 0);
        x.product(12, 12, 11);
        C.due("x to -99", x.part(12, 0, 2), -99);
        C.noState("x to -100", () -> x.derive(12, 12));
        C.due("what a refused call leaves", x.part(12, 0, 2), -99);
        derivativeOfManyParts(x);
        for (int k : new int[] {0, 1, 3}) {
            C.noState("no growth", () -> x.derive(5, k));
        }
        for (int wrong : Rooms.WRONG_PLACES) {
            C.noPlace("derive(" + wrong + ", 0)", () -> x.derive(wrong, 0));
            C.noPlace("derive(0, " + wrong + ")", () -> x.derive(0, wrong));
        }
    }

    private static void derivativeOfManyParts(Transseria x) {
        Rooms.xPowers(x, 13, 1, 20);
        x.derive(14, 13);
        C.due("20 parts of 20", x.terms(14), 20);
        partIs("the first one", x, 14, 0, 20, 0, 19, 0, 0);
        x.term(15, 1, 1, 0, 0, 0);
        x.product(13, 13, 15);
        C.noState("21 parts of 20", () -> x.derive(14, 13));
        C.due("what it leaves", x.part(14, 19, 0), 1);
    }

    private static void promise14compare() {
        Transseria x = withOrdinals();
        C.due("1 and 2", x.compare(1, 2), -1);
        C.due("omega and 3", x.compare(4, 3), 1);
        x.sum(6, 4, 2);
        C.due("one ends", x.compare(4, 6), -1);
        x.sum(7, 4, 4);
        C.due("more times, before more powers", x.compare(7, 6), 1);
        C.due("the greater exponent", x.compare(7, 5), -1);
        x.sum(8, 4, 2);
        same("the same, made twice", x, 6, 8);
        same("itself", x, 0, 0);
        x.number(9, 1, 20);
        x.number(10, -256, 0);
        C.due("numbers", x.compare(9, 10), 1);
        C.due("numbers the other way", x.compare(10, 9), -1);
        same("a number and itself", x, 9, 9);
        x.term(11, 1, 0, 0, 0, 1);
        x.term(12, 1000000, 0, 0, 0, 0);
        C.due("log log x and 1000000", x.compare(11, 12), 1);
        x.term(13, 0, 0, 0, 0, 0);
        C.due("0 and log log x", x.compare(13, 11), -1);
        x.term(14, -1, 5, 0, 0, 0);
        C.due("0 and -exp 5x", x.compare(13, 14), 1);
        C.due("-exp 5x and 0", x.compare(14, 13), -1);
        x.sum(15, 11, 14);
        C.due("the second part tells", x.compare(15, 14), 1);
        C.due("the second part tells back", x.compare(14, 15), -1);
        x.sum(13, 14, 14);
        C.due("the times tell", x.compare(13, 15), -1);
        same("a growth and itself", x, 15, 15);
        Transseria y = Rooms.withOneOfEach();
        C.noState("unlike things", () -> y.compare(0, 1));
        C.noState("a number and a growth", () -> y.compare(1, 2));
        C.noState("nothing", () -> y.compare(3, 3));
        C.noState("nothing and an ordinal", () -> y.compare(0, 3));
        for (int wrong : Rooms.WRONG_PLACES) {
            C.noPlace("compare(" + wrong + ", 3)", () -> y.compare(wrong, 3));
            C.noPlace("compare(3, " + wrong + ")", () -> y.compare(3, wrong));
        }
    }

    // ---- ordinals

    private static void promise15step() {
        Transseria x = withOrdinals();
        x.step(6, 3, 99);
        same("a step of 3", x, 6, 2);
        x.step(6, 1, 5);
        same("a step of 1", x, 6, 0);
        x.step(6, 4, 7);
        ordinalIs("a step of omega by 7", x, 6, 0, 7);
        x.sum(7, 4, 4);
        x.step(7, 7, 99);
        ordinalIs("a step of omega 2 by 99", x, 7, 1, 1, 0, 99);
        x.step(7, 5, 3);
        ordinalIs("a step of omega to omega by 3", x, 7, 3, 1);
        x.step(7, 7, 2);
        ordinalIs("a step of omega to 3 by 2", x, 7, 2, 2);
        x.sum(8, 4, 1);
        x.omega(8, 8);
        x.step(9, 8, 4);
        C.due("a step of omega to (omega + 1) by 4", x.times(9, 0), 4);
        x.exponent(9, 9, 0);
        same("its exponent", x, 9, 4);
        Rooms.powersFrom(x, 10, 1, 8);
        x.step(11, 10, 6);
        C.due("8 powers by one for one", x.powers(11), 8);
        x.sum(12, 11, 0);
        x.step(12, 12, 1);
        C.due("a finite end goes down", x.times(12, 7), 5);
        x.finite(13, 0);
        x.omega(13, 4);
        x.sum(10, 10, 4);
        C.noState("9 powers", () -> x.step(11, 10, 1));
        C.noState("of 0", () -> x.step(11, 0, 1));
        C.noArgument("n 0", () -> x.step(11, 4, 0));
        C.noArgument("n 100", () -> x.step(11, 4, 100));
        C.noArgument("an argument before the state", () -> x.step(11, 0, 0));
        C.noPlace("a place before an argument", () -> x.step(16, 0, 0));
        C.due("what refused calls leave", x.powers(11), 8);
        Transseria y = Rooms.withOneOfEach();
        for (int k = 1; k <= 3; k++) {
            int place = k;
            C.noState("no ordinal", () -> y.step(0, place, 1));
        }
        for (int wrong : Rooms.WRONG_PLACES) {
            C.noPlace("step(" + wrong + ", 0, 1)", () -> y.step(wrong, 0, 1));
            C.noPlace("step(0, " + wrong + ", 1)", () -> y.step(0, wrong, 1));
        }
    }

    private static void promise16descent() {
        Transseria x = withOrdinals();
        C.due("from 0", x.descent(0, 1, 0), 0);
        C.due("from 0, with 2000", x.descent(0, 99, 2000), 0);
        C.due("from 3", x.descent(3, 7, 3), 3);
        C.due("from 3, too few", x.descent(3, 7, 2), Transseria.NONE);
        C.due("from omega by 1", x.descent(4, 1, 2000), 2);
        C.due("from omega by 99", x.descent(4, 99, 100), 100);
        C.due("from omega by 99, too few", x.descent(4, 99, 99), Transseria.NONE);
        x.sum(6, 4, 4);
        C.due("from omega 2 by 2", x.descent(6, 2, 2000), 9);
        x.omega(7, 2);
        C.due("from omega squared by 2", x.descent(7, 2, 2000), 13);
        C.due("from omega squared by 2, with 13", x.descent(7, 2, 13), 13);
        C.due("from omega squared by 2, with 12", x.descent(7, 2, 12), Transseria.NONE);
        x.finite(8, 1000000);
        C.due("from 1000000", x.descent(8, 1, 2000), Transseria.NONE);
        x.finite(8, 2000);
        C.due("from 2000", x.descent(8, 1, 2000), 2000);
        C.due("with none", x.descent(8, 1, 0), Transseria.NONE);
        C.due("the ordinal stays", x.times(8, 0), 2000);
        for (int wrong : new int[] {0, 100, -1, Integer.MIN_VALUE}) {
            C.noArgument("n " + wrong, () -> x.descent(3, wrong, 5));
        }
        for (int wrong : new int[] {-1, 2001, Integer.MIN_VALUE}) {
            C.noArgument("most " + wrong, () -> x.descent(3, 1, wrong));
        }
        Transseria y = Rooms.withOneOfEach();
        C.noArgument("an argument before the state", () -> y.descent(3, 0, 5));
        for (int k = 1; k <= 3; k++) {
            int place = k;
            C.noState("no ordinal", () -> y.descent(place, 1, 5));
        }
        for (int wrong : Rooms.WRONG_PLACES) {
            C.noPlace("descent(" + wrong + ", 0, -1)", () -> y.descent(wrong, 0, -1));
        }
    }

    private static void promise16descentThatDoesNotFit() {
        Transseria x = new Transseria();
        Rooms.powersFrom(x, 0, 2, 9);
        x.natural(0, 0, 0, false);
        C.due("no step, none that does not fit", x.descent(0, 1, 0), Transseria.NONE);
        C.noState("the first step has 9 powers", () -> x.descent(0, 1, 1));
        x.finite(1, 12);
        x.omega(1, 1);
        C.due("omega to 12, up to 8 powers", x.descent(1, 2, 8), Transseria.NONE);
        C.noState("omega to 12, the 9th step", () -> x.descent(1, 2, 9));
        C.noState("omega to 12, more", () -> x.descent(1, 2, 2000));
        C.due("it stays", x.powers(1), 1);
        x.finite(2, 40);
        x.sum(3, 1, 2);
        C.due("40 steps ahead of that", x.descent(3, 1, 48), Transseria.NONE);
        C.noState("and one more", () -> x.descent(3, 1, 49));
        x.finite(4, 3);
        x.sum(5, 4, 4);
        ordinalIs("what is made later is whole", x, 5, 0, 6);
    }

    private static void promise17powers() {
        Transseria x = Rooms.withOneOfEach();
        C.due("powers of 1", x.powers(0), 1);
        x.finite(0, 0);
        C.due("powers of 0", x.powers(0), 0);
        Rooms.powersFrom(x, 4, 0, 7);
        C.due("8 powers", x.powers(4), 8);
        for (int k = 1; k <= 3; k++) {
            int place = k;
            C.noState("powers of no ordinal", () -> x.powers(place));
        }
        for (int wrong : Rooms.WRONG_PLACES) {
            C.noPlace("powers(" + wrong + ")", () -> x.powers(wrong));
        }
    }

    private static void promise18times() {
        Transseria x = Rooms.withOneOfEach();
        x.finite(4, 1);
        x.omega(4, 4);
        x.finite(5, 1000000);
        x.product(4, 4, 5);
        x.finite(5, 6);
        x.sum(4, 4, 5);
        C.due("the first power", x.times(4, 0), 1000000);
        C.due("the second power", x.times(4, 1), 6);
        C.noState("no third power", () -> x.times(4, 2));
        C.noState("far behind", () -> x.times(4, Integer.MAX_VALUE));
        C.noPlace("k below 0", () -> x.times(4, -1));
        C.noPlace("k below 0 of nothing", () -> x.times(3, Integer.MIN_VALUE));
        x.finite(0, 0);
        C.noState("0 has none", () -> x.times(0, 0));
        for (int k = 1; k <= 3; k++) {
            int place = k;
            C.noState("times of no ordinal", () -> x.times(place, 0));
        }
        for (int wrong : Rooms.WRONG_PLACES) {
            C.noPlace("times(" + wrong + ", 0)", () -> x.times(wrong, 0));
        }
    }

    private static void promise19exponent() {
        Transseria x = withOrdinals();
        x.sum(6, 5, 4);
        x.sum(6, 6, 3);
        x.exponent(7, 6, 0);
        same("the first exponent", x, 7, 4);
        x.exponent(7, 6, 1);
        same("the second exponent", x, 7, 1);
        x.exponent(7, 6, 2);
        same("the last exponent", x, 7, 0);
        C.noState("no fourth power", () -> x.exponent(7, 6, 3));
        C.noState("0 has none", () -> x.exponent(7, 0, 0));
        C.noPlace("k below 0", () -> x.exponent(7, 6, -1));
        same("what refused calls leave", x, 7, 0);
        x.exponent(6, 6, 0);
        same("where it stood itself", x, 6, 4);
        Transseria y = Rooms.withOneOfEach();
        for (int k = 1; k <= 3; k++) {
            int place = k;
            C.noState("exponent of no ordinal", () -> y.exponent(0, place, 0));
        }
        for (int wrong : Rooms.WRONG_PLACES) {
            C.noPlace("exponent(" + wrong + ", 3, 0)", () -> y.exponent(wrong, 3, 0));
            C.noPlace("exponent(0, " + wrong + ", 0)", () -> y.exponent(0, wrong, 0));
        }
    }

    // ---- numbers

    private static void cutIs(Transseria x, long low, long high, int birthday, long parts) {
        x.number(0, (int) low, 20);
        x.number(1, (int) high, 20);
        String what = "between " + low + " and " + high;
        C.due(what + ": birthday", x.cut(2, 1, 2), birthday);
        C.due(what + ": parts", x.parts(2), parts);
    }

    private static void promise20cut() {
        Transseria x = new Transseria();
        C.due("of none", x.cut(0, 0, 0), 0);
        C.due("of none: 0", x.parts(0), 0);
        C.due("above 0, where it stood", x.cut(0, 1, 0), 1);
        C.due("above 0: 1", x.parts(0), ONE);
        cutIs(x, -1, 1, 0, 0);
        cutIs(x, 0, ONE, 2, ONE / 2);
        cutIs(x, 0, ONE + 1, 1, ONE);
        cutIs(x, -ONE, 0, 2, -ONE / 2);
        cutIs(x, ONE / 4, ONE, 2, ONE / 2);
        cutIs(x, ONE / 2, ONE, 3, 3 * ONE / 4);
        cutIs(x, 5L * ONE / 2, 9L * ONE, 3, 3 * ONE);
        cutIs(x, -9L * ONE, -5L * ONE / 2, 3, -3 * ONE);
        cutIs(x, 0, 2, 21, 1);
        cutIs(x, 256L * ONE - 2, 256L * ONE, 276, 256L * ONE - 1);
        x.number(3, 511, 1);
        C.due("below -255.5", negativeCut(x), 256);
        C.due("above 255.5", x.cut(5, 8, 0), 256);
        x.number(6, 7, 0);
        C.due("above the greatest of many", x.cut(7, 1 << 6 | 1 << 2, 0), 256);
        x.number(8, 12, 0);
        x.number(9, 21, 1);
        C.due("between many", x.cut(15, 1 << 6 | 1 << 4, 1 << 8 | 1 << 9), 8);
        C.due("between many: 8", x.parts(15), 8L * ONE);
        x.number(15, 3, 0);
        C.due("with place 15", x.cut(10, 1 << 15, 1 << 8), 4);
        cutOfAllPlaces();
    }

    private static void cutOfAllPlaces() {
        Transseria x = new Transseria();
        for (int k = 0; k < 16; k++) {
            x.number(k, k - 30, 0);
        }
        C.due("above all places", x.cut(3, 65535, 0), 0);
        x.number(3, -40, 0);
        C.due("below all places", x.cut(3, 0, 65535), 41);
    }

    private static int negativeCut(Transseria x) {
        x.number(4, -511, 1);
        int birthday = x.cut(4, 0, 16);
        C.due("below -255.5: -256", x.parts(4), -256L * ONE);
        return birthday;
    }

    private static void promise20cutThatIsRefused() {
        Transseria x = Rooms.withOneOfEach();
        x.number(4, 2, 0);
        x.number(5, 2097153, 20);
        x.number(6, 256, 0);
        x.number(7, -256, 0);
        C.noState("none between two parts", () -> x.cut(1, 16, 32));
        C.noState("the wrong way", () -> x.cut(1, 16, 2));
        C.noState("the same one", () -> x.cut(1, 16, 16));
        C.noState("one of many the wrong way", () -> x.cut(1, 1 << 7 | 16, 2));
        C.noState("above 256", () -> x.cut(1, 64, 0));
        C.noState("below -256", () -> x.cut(1, 0, 128));
        for (int k : new int[] {0, 2, 3}) {
            C.noState("no number among the lows", () -> x.cut(1, 2 | 1 << k, 0));
            C.noState("no number among the highs", () -> x.cut(1, 0, 2 | 1 << k));
        }
        for (int wrong : new int[] {-1, 65536, Integer.MIN_VALUE, Integer.MAX_VALUE}) {
            C.noArgument("lows " + wrong, () -> x.cut(1, wrong, 0));
            C.noArgument("highs " + wrong, () -> x.cut(1, 0, wrong));
            C.noPlace("a place first", () -> x.cut(16, wrong, wrong));
        }
        C.due("what refused calls leave", x.parts(1), ONE);
        for (int wrong : Rooms.WRONG_PLACES) {
            C.noPlace("cut(" + wrong + ", 0, 0)", () -> x.cut(wrong, 0, 0));
        }
    }

    private static void birthdayIs(Transseria x, int numerator, int power, int birthday) {
        x.number(0, numerator, power);
        C.due("birthday of " + numerator + " by 2 to " + power, x.birthday(0), birthday);
    }

    private static void promise21birthday() {
        Transseria x = new Transseria();
        birthdayIs(x, 0, 0, 0);
        birthdayIs(x, 1, 0, 1);
        birthdayIs(x, -256, 0, 256);
        birthdayIs(x, 1, 1, 2);
        birthdayIs(x, -1, 20, 21);
        birthdayIs(x, 4, 2, 1);
        birthdayIs(x, 19, 3, 6);
        birthdayIs(x, 268435455, 20, 276);
        Transseria y = Rooms.withOneOfEach();
        for (int k : new int[] {0, 2, 3}) {
            C.noState("birthday of no number", () -> y.birthday(k));
        }
        for (int wrong : Rooms.WRONG_PLACES) {
            C.noPlace("birthday(" + wrong + ")", () -> y.birthday(wrong));
        }
    }

    private static void signsAre(Transseria x, int numerator, int power, String signs) {
        x.number(0, numerator, power);
        for (int k = 0; k < signs.length() + 2; k++) {
            int due = k >= signs.length() ? 0 : signs.charAt(k) == '+' ? 1 : -1;
            C.due("sign " + k + " of " + numerator + " by 2 to " + power, x.signOf(0, k), due);
        }
    }

    private static void promise22signOf() {
        Transseria x = new Transseria();
        signsAre(x, 0, 0, "");
        signsAre(x, 2, 0, "++");
        signsAre(x, -3, 0, "---");
        signsAre(x, 1, 1, "+-");
        signsAre(x, -3, 2, "-+-");
        signsAre(x, 19, 3, "+++--+");
        signsAre(x, 1, 20, "+" + "-".repeat(20));
        signsAre(x, 268435455, 20, "+".repeat(256) + "-" + "+".repeat(19));
        C.due("far behind", x.signOf(0, Integer.MAX_VALUE), 0);
        C.noPlace("k below 0", () -> x.signOf(0, -1));
        C.noPlace("k below 0 of nothing", () -> x.signOf(1, -1));
        Transseria y = Rooms.withOneOfEach();
        for (int k : new int[] {0, 2, 3}) {
            C.noState("sign of no number", () -> y.signOf(k, 0));
        }
        for (int wrong : Rooms.WRONG_PLACES) {
            C.noPlace("signOf(" + wrong + ", 0)", () -> y.signOf(wrong, 0));
        }
    }

    private static void promise23parts() {
        Transseria x = Rooms.withOneOfEach();
        C.due("parts of 1", x.parts(1), ONE);
        x.number(4, -1, 20);
        C.due("parts of a part below 0", x.parts(4), -1);
        x.number(4, -256, 0);
        C.due("parts of -256", x.parts(4), -268435456L);
        for (int k : new int[] {0, 2, 3}) {
            C.noState("parts of no number", () -> x.parts(k));
        }
        for (int wrong : Rooms.WRONG_PLACES) {
            C.noPlace("parts(" + wrong + ")", () -> x.parts(wrong));
        }
    }

    // ---- growths

    private static void tendsTo(Transseria x, int want, int... part) {
        x.term(4, part[0], part[1], part[2], part[3], part[4]);
        String what = part[0] + " of " + part[1] + ", " + part[2] + ", " + part[3] + ", " + part[4];
        C.due(what, x.tends(4), want);
        x.term(5, -1000000, -20, 20, 20, 20);
        x.sum(5, 5, 4);
        C.due(what + " and a part that vanishes", x.tends(5), want);
    }

    private static void promise24tends() {
        Transseria x = Rooms.withOneOfEach();
        C.due("1", x.tends(2), Transseria.SETTLES);
        tendsTo(x, Transseria.VANISHES, 0, 0, 0, 0, 0);
        tendsTo(x, Transseria.SETTLES, -7, 0, 0, 0, 0);
        tendsTo(x, Transseria.RISES, 1, 0, 0, 0, 1);
        tendsTo(x, Transseria.FALLS, -1, 0, 0, 0, 1);
        tendsTo(x, Transseria.VANISHES, 9, 0, 0, 0, -1);
        tendsTo(x, Transseria.RISES, 1, 0, 0, 1, -20);
        tendsTo(x, Transseria.VANISHES, 9, 0, 0, -1, 20);
        tendsTo(x, Transseria.FALLS, -1, 0, 1, -20, -20);
        tendsTo(x, Transseria.VANISHES, 9, 0, -1, 20, 20);
        tendsTo(x, Transseria.RISES, 1, 1, -20, -20, -20);
        tendsTo(x, Transseria.VANISHES, -9, -1, 20, 20, 20);
        for (int k : new int[] {0, 1, 3}) {
            C.noState("tends of no growth", () -> x.tends(k));
        }
        for (int wrong : Rooms.WRONG_PLACES) {
            C.noPlace("tends(" + wrong + ")", () -> x.tends(wrong));
        }
    }

    private static void promise25terms() {
        Transseria x = Rooms.withOneOfEach();
        C.due("terms of 1", x.terms(2), 1);
        x.term(2, 0, 0, 0, 0, 0);
        C.due("terms of 0", x.terms(2), 0);
        Rooms.xPowers(x, 4, -9, 10);
        C.due("20 terms", x.terms(4), 20);
        for (int k : new int[] {0, 1, 3}) {
            C.noState("terms of no growth", () -> x.terms(k));
        }
        for (int wrong : Rooms.WRONG_PLACES) {
            C.noPlace("terms(" + wrong + ")", () -> x.terms(wrong));
        }
    }

    private static void promise26part() {
        Transseria x = Rooms.withOneOfEach();
        int[][] falling = {{7, 1, 0, 0, 0}, {-6, 0, 2, 0, 0}, {5, 0, 1, 1, 0}, {-4, 0, 1, 0, 3}, {3, 0, 0, 0, 0}, {2, 0, -1, 9, 9}, {-1, -1, 9, 9, 9}};
        x.term(4, 0, 0, 0, 0, 0);
        for (int k : new int[] {3, 6, 0, 5, 2, 1, 4}) {
            x.term(5, falling[k][0], falling[k][1], falling[k][2], falling[k][3], falling[k][4]);
            x.sum(4, 4, 5);
        }
        for (int k = 0; k < falling.length; k++) {
            partIs("in order", x, 4, k, falling[k]);
        }
        C.noState("no eighth part", () -> x.part(4, 7, 0));
        C.noState("far behind", () -> x.part(4, Integer.MAX_VALUE, 4));
        C.noArgument("what 5", () -> x.part(4, 0, 5));
        C.noArgument("what -1", () -> x.part(4, 0, -1));
        C.noArgument("an argument before the state", () -> x.part(3, 0, 5));
        C.noPlace("k below 0 first", () -> x.part(4, -1, 5));
        for (int k : new int[] {0, 1, 3}) {
            C.noState("part of no growth", () -> x.part(k, 0, 0));
        }
        for (int wrong : Rooms.WRONG_PLACES) {
            C.noPlace("part(" + wrong + ", 0, 5)", () -> x.part(wrong, 0, 5));
        }
    }
}
