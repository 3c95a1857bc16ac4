import java.lang.reflect.InvocationTargetException;
import java.lang.reflect.Method;
import java.util.Arrays;
import java.util.Map;
import java.util.TreeMap;

/** Long runs of calls whose numbers come from a fixed row, each answer held against that of Model. */
public final class ModelRuns {
    private static final int RUNS = 1500, CALLS = 400;
    private static final Map<String, Method> OURS = methodsOf(Transseria.class), DUE = methodsOf(Model.class);
    private static final String[] ORDINALS = {"finite", "finite", "omega", "omega", "sum", "sum", "sum", "product", "natural", "natural",
        "compare", "step", "descent", "powers", "times", "exponent"};
    private static final String[] NUMBERS = {"number", "number", "signs", "sum", "product", "difference", "compare", "cut", "cut",
        "birthday", "signOf", "parts"};
    private static final String[] GROWTHS = {"term", "term", "sum", "sum", "product", "difference", "derive", "compare", "tends", "terms",
        "part", "part"};
    private static final Map<String, Integer> WELL = new TreeMap<>(), THROWN = new TreeMap<>();

    private static long seed = 20261119;
    private static Model model;
    private static int wished;

    private static Map<String, Method> methodsOf(Class<?> face) {
        Map<String, Method> methods = new TreeMap<>();
        for (Method method : face.getDeclaredMethods()) {
            if (java.lang.reflect.Modifier.isPublic(method.getModifiers())) {
                methods.put(method.getName(), method);
            }
        }
        return methods;
    }

    private static int upTo(int most) {
        seed = seed * 6364136223846793005L + 1442695040888963407L;
        return (int) ((seed >>> 33) % (most + 1L));
    }

    private static int from(int least, int most) {
        return least + upTo(most - least);
    }

    private static boolean seldom() {
        return upTo(60) == 0;
    }

    private static int wild() {
        int[] wilds = {-1, 16, -7, 100, 21, -21, 1000001, Integer.MAX_VALUE, Integer.MIN_VALUE, 65536, 2001, 0};
        return wilds[upTo(wilds.length - 1)];
    }

    private static int anyPlace() {
        return seldom() ? wild() : upTo(upTo(3) == 0 ? 15 : 7);
    }

    private static int holder() {
        int place = anyPlace();
        for (int tries = 0; tries < 12 && place >= 0 && place < 16 && model.kind(place) != wished; tries++) {
            place = upTo(15);
        }
        return place;
    }

    private static int holders() {
        if (seldom()) {
            return wild();
        }
        int bits = 0;
        int many = upTo(3);
        for (int k = 0; k < many; k++) {
            int place = holder();
            bits |= place >= 0 && place < 16 ? 1 << place : 0;
        }
        return bits;
    }

    private static int within(int least, int most) {
        return seldom() ? wild() : upTo(9) == 0 ? (upTo(1) == 0 ? least : most) : from(least, most);
    }

    private static int small(int least, int most, int middle) {
        return upTo(3) > 0 ? from(Math.max(least, -middle), Math.min(most, middle)) : within(least, most);
    }

    private static Object[] argumentsOf(String call) {
        switch (call) {
            case "kind": case "clear": return new Object[] {anyPlace()};
            case "finite": return new Object[] {anyPlace(), small(0, 1000000, 4)};
            case "omega": return new Object[] {anyPlace(), holder()};
            case "number": return aNumber();
            case "signs": return aRow();
            case "term": return new Object[] {anyPlace(), small(-1000000, 1000000, 3), small(-20, 20, 1), small(-20, 20, 1),
                small(-20, 20, 1), small(-20, 20, 1)};
            case "natural": return new Object[] {anyPlace(), holder(), holder(), upTo(1) == 0};
            case "sum": case "product": case "difference": return new Object[] {anyPlace(), holder(), holder()};
            case "derive": return new Object[] {anyPlace(), holder()};
            case "compare": return new Object[] {holder(), holder()};
            case "step": return new Object[] {anyPlace(), holder(), small(1, 99, 3)};
            case "descent": return new Object[] {holder(), small(1, 99, 4), upTo(2) > 0 ? within(0, 2000) : from(0, 40)};
            case "times": case "signOf": return new Object[] {holder(), upTo(9) == 0 ? wild() : upTo(upTo(1) == 0 ? 3 : 280)};
            case "exponent": return new Object[] {anyPlace(), holder(), seldom() ? wild() : upTo(4)};
            case "cut": return new Object[] {anyPlace(), holders(), holders()};
            case "part": return new Object[] {holder(), seldom() ? wild() : upTo(6), seldom() ? wild() : upTo(4)};
            default: return new Object[] {holder()};
        }
    }

    private static Object[] aNumber() {
        int power = seldom() ? wild() : upTo(1) == 0 ? upTo(4) : upTo(20);
        int most = power >= 0 && power <= 20 ? 256 << power : 1000;
        return new Object[] {anyPlace(), upTo(2) == 0 ? from(-5, 5) : upTo(9) == 0 ? most + from(-1, 1) : within(-most, most), power};
    }

    private static Object[] aRow() {
        int length = seldom() ? wild() : upTo(20);
        int row = seldom() ? wild() : length >= 0 && length <= 20 ? upTo((1 << length) - 1) : 0;
        return new Object[] {anyPlace(), row, length};
    }

    private static String answer(Method method, Object object, Object[] arguments) throws IllegalAccessException {
        try {
            Object answer = method.invoke(object, arguments);
            return answer == null ? "nothing" : answer.toString();
        } catch (InvocationTargetException e) {
            return "throws." + e.getCause().getClass().getSimpleName();
        }
    }

    private static boolean differs(int run, String call, Object[] arguments, Transseria ours) throws IllegalAccessException {
        String due = answer(DUE.get(call), model, arguments);
        String got = answer(OURS.get(call), ours, arguments);
        (due.startsWith("throws") ? THROWN : WELL).merge(call, 1, Integer::sum);
        if (!due.equals(got)) {
            System.out.println("run " + run + ": " + call + Arrays.toString(arguments) + " answered " + got + ", due is " + due);
        }
        return !due.equals(got);
    }

    /** What the places hold at the end, by the calls that only tell of it, and the exponents by their own. */
    private static boolean endDiffers(int run, Transseria ours) throws IllegalAccessException {
        boolean wrong = false;
        for (int place = 0; place < 16; place++) {
            wrong |= differs(run, "kind", new Object[] {place}, ours);
            wrong |= differs(run, "powers", new Object[] {place}, ours);
            wrong |= differs(run, "times", new Object[] {place, 0}, ours);
            wrong |= differs(run, "parts", new Object[] {place}, ours);
            wrong |= differs(run, "terms", new Object[] {place}, ours);
            wrong |= differs(run, "part", new Object[] {place, 0, upTo(4)}, ours);
        }
        return wrong;
    }

    private static boolean runDiffers(int run) throws IllegalAccessException {
        String[][] mixes = {ORDINALS, NUMBERS, GROWTHS};
        Transseria ours = new Transseria();
        model = new Model();
        for (int k = 0; k < CALLS; k++) {
            int mix = run % 4 < 3 ? run % 4 : upTo(2);
            wished = mix + 1;
            String call = upTo(40) == 0 ? (upTo(3) > 0 ? "kind" : "clear") : mixes[mix][upTo(mixes[mix].length - 1)];
            if (differs(run, call, argumentsOf(call), ours)) {
                return true;
            }
        }
        return endDiffers(run, ours);
    }

    public static void main(String[] args) throws IllegalAccessException {
        int wrong = 0;
        for (int run = 0; run < RUNS; run++) {
            wrong += runDiffers(run) ? 1 : 0;
        }
        if (args.length > 0) {
            System.out.println("answered " + WELL + "\nthrown " + THROWN);
        }
        System.out.println(wrong == 0 ? "ModelRuns: all runs are as due" : "ModelRuns: " + wrong + " runs are not as due");
        if (wrong != 0) {
            System.exit(1);
        }
    }
}
