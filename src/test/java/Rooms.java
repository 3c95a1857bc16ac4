import java.util.ArrayList;
import java.util.List;

/**
 * What many tests begin with, by few calls, for an object is used for 512 at most. An ordinal is written as a text like w^(w+1)*2+w^3+5, a growth as one like
 * "3:1,0,0,0 -2:0,1,0,0": the times of each part, and its exponents of exp x, x, log x and log log x.
 */
final class Rooms {
    static final int[] WRONG_PLACES = {-1, 16, Integer.MIN_VALUE, Integer.MAX_VALUE};
    static final int ONE = 1048576;
    static final int LAST = 15;
    static final String EIGHT = "w^8+w^7+w^6+w^5+w^4+w^3+w^2+w";

    // The places from 10 on are used on the way to what is made, or read, by several calls.
    private static final int WAY = 14, TIMES = 15;

    private Rooms() {
    }

    /** 0 an ordinal, 1 a number, 2 a growth, each 1; 3 nothing. */
    static Transseria withOneOfEach() {
        Transseria x = new Transseria();
        x.finite(0, 1);
        x.number(1, 1, 0);
        x.term(2, 1, 0, 0, 0, 0);
        return x;
    }

    static Transseria withOrdinals(String... ordinals) {
        Transseria x = new Transseria();
        for (int k = 0; k < ordinals.length; k++) {
            ordinal(x, k, ordinals[k]);
        }
        return x;
    }

    static Transseria withNumbers(long... parts) {
        Transseria x = new Transseria();
        for (int k = 0; k < parts.length; k++) {
            x.number(k, (int) parts[k], 20);
        }
        return x;
    }

    static Transseria withGrowths(String... growths) {
        Transseria x = new Transseria();
        for (int k = 0; k < growths.length; k++) {
            growth(x, k, growths[k]);
        }
        return x;
    }

    /** Omega to the power least to most each once, at a place; 15 is used on the way. */
    static void powersFrom(Transseria x, int place, int least, int most) {
        x.finite(place, 0);
        for (int k = most; k >= least; k--) {
            x.finite(15, k);
            x.omega(15, 15);
            x.sum(place, place, 15);
        }
    }

    /** x to each power from least to most, at a place; 15 is used on the way. */
    static void xPowers(Transseria x, int place, int least, int most) {
        x.term(place, 0, 0, 0, 0, 0);
        for (int k = least; k <= most; k++) {
            x.term(15, 1, 0, k, 0, 0);
            x.sum(place, place, 15);
        }
    }

    /** The text of x to each power from least to most, each so many times. */
    static String powersOfX(int times, int least, int most) {
        StringBuilder text = new StringBuilder();
        for (int k = most; k >= least; k--) {
            text.append(k < most ? " " : "").append(times + ":0," + k + ",0,0");
        }
        return text.toString();
    }

    // ---- from texts

    static void ordinal(Transseria x, int place, String text) {
        ordinal(x, place, text, WAY);
    }

    private static void ordinal(Transseria x, int place, String text, int way) {
        if (isFinite(text)) {
            x.finite(place, Integer.parseInt(text));
            return;
        }
        x.finite(place, 0);
        for (String power : powersIn(text)) {
            power(x, way, power);
            x.sum(place, place, way);
        }
    }

    private static void power(Transseria x, int way, String power) {
        if (isFinite(power)) {
            x.finite(way, Integer.parseInt(power));
            return;
        }
        int star = power.lastIndexOf('*');
        boolean often = star > power.lastIndexOf(')');
        String base = often ? power.substring(0, star) : power;
        ordinal(x, way, base.equals("w") ? "1" : base.replaceAll("^w\\^\\(?|\\)$", ""), way - 1);
        x.omega(way, way);
        if (often) {
            x.finite(TIMES, Integer.parseInt(power.substring(star + 1)));
            x.product(way, way, TIMES);
        }
    }

    private static boolean isFinite(String text) {
        return text.matches("[0-9]+");
    }

    private static List<String> powersIn(String text) {
        List<String> powers = new ArrayList<>();
        int depth = 0;
        int start = 0;
        for (int k = 0; k <= text.length(); k++) {
            char sign = k < text.length() ? text.charAt(k) : '+';
            depth += sign == '(' ? 1 : sign == ')' ? -1 : 0;
            if (sign == '+' && depth == 0) {
                powers.add(text.substring(start, k));
                start = k + 1;
            }
        }
        return powers;
    }

    static void growth(Transseria x, int place, String text) {
        x.term(place, 0, 0, 0, 0, 0);
        for (String part : text.equals("0") ? new String[0] : text.split(" ")) {
            String[] numbers = part.split("[:,]");
            int[] exponents = new int[4];
            for (int k = 0; k < 4; k++) {
                exponents[k] = Integer.parseInt(numbers[k + 1]);
            }
            part(x, Integer.parseInt(numbers[0]), exponents);
            x.sum(place, place, WAY);
        }
    }

    /** Greater times, and greater exponents, than term takes are made by products. */
    private static void part(Transseria x, int times, int[] exponents) {
        if (Math.abs(times) <= 1000000) {
            x.term(WAY, times, taken(exponents, 0), taken(exponents, 1), taken(exponents, 2), taken(exponents, 3));
        } else {
            x.term(WAY, times / 100, 0, 0, 0, 0);
            x.term(TIMES, 100, 0, 0, 0, 0);
            x.product(WAY, WAY, TIMES);
            x.term(TIMES, times % 100, 0, 0, 0, 0);
            x.sum(WAY, WAY, TIMES);
        }
        while (exponents[0] != 0 || exponents[1] != 0 || exponents[2] != 0 || exponents[3] != 0) {
            x.term(TIMES, 1, taken(exponents, 0), taken(exponents, 1), taken(exponents, 2), taken(exponents, 3));
            x.product(WAY, WAY, TIMES);
        }
    }

    /** As much of an exponent as term takes, and that is taken from it. */
    private static int taken(int[] exponents, int k) {
        int now = Math.max(-20, Math.min(20, exponents[k]));
        exponents[k] -= now;
        return now;
    }

    // ---- to texts

    /** What a place from 0 to 9 holds; for an ordinal, those from 10 on are used. */
    static String text(Transseria x, int place) {
        switch (x.kind(place)) {
            case Transseria.ORDINAL: return ordinalText(x, place, WAY);
            case Transseria.NUMBER: return x.parts(place) + " parts";
            case Transseria.GROWTH: return growthText(x, place);
            default: return "nothing";
        }
    }

    private static String ordinalText(Transseria x, int place, int way) {
        StringBuilder text = new StringBuilder();
        int powers = x.powers(place);
        for (int k = 0; k < powers; k++) {
            x.exponent(way, place, k);
            String exponent = ordinalText(x, way, way - 1);
            long times = x.times(place, k);
            text.append(k > 0 ? "+" : "").append(powerText(exponent, times));
        }
        return text.length() == 0 ? "0" : text.toString();
    }

    private static String powerText(String exponent, long times) {
        if (exponent.equals("0")) {
            return String.valueOf(times);
        }
        String base = exponent.equals("1") ? "w" : isFinite(exponent) ? "w^" + exponent : "w^(" + exponent + ")";
        return times == 1 ? base : base + "*" + times;
    }

    private static String growthText(Transseria x, int place) {
        StringBuilder text = new StringBuilder();
        int terms = x.terms(place);
        for (int k = 0; k < terms; k++) {
            text.append(k > 0 ? " " : "").append(x.part(place, k, 0)).append(':');
            for (int what = 1; what <= 4; what++) {
                text.append(what > 1 ? "," : "").append(x.part(place, k, what));
            }
        }
        return text.length() == 0 ? "0" : text.toString();
    }
}
