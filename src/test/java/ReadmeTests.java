import java.io.IOException;
import java.lang.reflect.InvocationTargetException;
import java.lang.reflect.Method;
import java.lang.reflect.Modifier;
import java.nio.charset.StandardCharsets;
import java.nio.file.Files;
import java.nio.file.Path;
import java.util.ArrayList;
import java.util.List;
import java.util.Set;
import java.util.TreeSet;
import java.util.regex.Matcher;
import java.util.regex.Pattern;

/** Makes every call of the examples in README.md, and holds its answer against the one that README.md names. */
public final class ReadmeTests {
    private static final Check C = new Check();
    private static final String FIRST_LINE = "Transseria room = new Transseria();";
    private static final Pattern LINE = Pattern.compile("room\\.(\\w+)\\((.*?)\\); *// (.*)");
    private static final Pattern PLACE = Pattern.compile("(?:(.*), )?place (\\d+): (.*)");
    private static final Set<String> TELL_KINDS = Set.of("kind", "clear", "sum", "product", "difference");
    private static final String[] KINDS = {"NOTHING", "ORDINAL", "NUMBER", "GROWTH"};
    private static final String[] LIMITS = {"VANISHES", "SETTLES", "RISES", "FALLS"};
    private static final String[] POWERS = {"exp(x)", "x", "log(x)", "loglog(x)"};

    private static final Set<String> answered = new TreeSet<>();
    private static final Set<String> refused = new TreeSet<>();

    public static void main(String[] args) throws IOException, IllegalAccessException {
        String page = Files.readString(Path.of(args[0]), StandardCharsets.UTF_8);
        List<List<String>> examples = examplesOf(page);
        C.due("examples of README.md", examples.size(), 5);
        for (List<String> example : examples) {
            follow(example);
        }
        everyCallStandsThere(page);
        C.end("ReadmeTests");
    }

    private static List<List<String>> examplesOf(String page) {
        List<List<String>> examples = new ArrayList<>();
        List<String> example = null;
        for (String line : page.split("\n")) {
            if (line.equals("```java")) {
                example = new ArrayList<>();
                examples.add(example);
            } else if (line.equals("```")) {
                example = null;
            } else if (example != null) {
                example.add(line);
            }
        }
        return examples;
    }

    private static void follow(List<String> example) throws IllegalAccessException {
        Transseria room = new Transseria();
        C.text("the first line", example.get(0), FIRST_LINE);
        for (int k = 1; k < example.size(); k++) {
            Matcher line = LINE.matcher(example.get(k));
            if (!line.matches()) {
                C.right("a call with its answer: " + example.get(k), false);
                continue;
            }
            String got = answerOf(room, line.group(1), line.group(2));
            String due = line.group(3).split(";")[0];
            Matcher place = PLACE.matcher(due);
            boolean tellsPlace = place.matches();
            C.text(example.get(k), got, !tellsPlace ? due : place.group(1) == null ? "" : place.group(1));
            if (tellsPlace) {
                // It is read in another room, in which all calls up to this one are made again, for that needs places.
                Transseria again = replayed(example, k);
                C.text(example.get(k), text(again, Integer.parseInt(place.group(2))), place.group(3));
            }
        }
    }

    private static Transseria replayed(List<String> example, int last) throws IllegalAccessException {
        Transseria room = new Transseria();
        for (int k = 1; k <= last; k++) {
            Matcher line = LINE.matcher(example.get(k));
            if (line.matches()) {
                answerOf(room, line.group(1), line.group(2));
            }
        }
        return room;
    }

    // ---- one call

    private static String answerOf(Transseria room, String name, String arguments) throws IllegalAccessException {
        Method method = methodOf(name);
        if (method == null) {
            return "no such call";
        }
        String[] texts = arguments.split(", ");
        Object[] values = new Object[texts.length];
        for (int k = 0; k < texts.length; k++) {
            values[k] = texts[k].equals("true") || texts[k].equals("false") ? (Object) texts[k].equals("true") : (Object) valueOf(texts[k]);
        }
        try {
            Object answer = method.invoke(room, values);
            answered.add(name);
            return answer == null ? "" : named(name, ((Number) answer).longValue());
        } catch (InvocationTargetException e) {
            refused.add(name);
            return "throws " + e.getCause().getClass().getName().replaceFirst("^java\\.lang\\.", "");
        }
    }

    private static Method methodOf(String name) {
        for (Method method : Transseria.class.getDeclaredMethods()) {
            if (Modifier.isPublic(method.getModifiers()) && method.getName().equals(name)) {
                return method;
            }
        }
        return null;
    }

    /** A number, one in bits (0b101), a shifted one (1 << 4), or several of these with | between them. */
    private static int valueOf(String text) {
        int value = 0;
        for (String one : text.split(" \\| ")) {
            String[] shifted = one.split(" << ");
            int number = shifted[0].startsWith("0b") ? Integer.parseInt(shifted[0].substring(2), 2) : Integer.parseInt(shifted[0]);
            value |= shifted.length > 1 ? number << Integer.parseInt(shifted[1]) : number;
        }
        return value;
    }

    private static String named(String name, long answer) {
        if (TELL_KINDS.contains(name)) {
            return KINDS[(int) answer];
        }
        if (name.equals("tends")) {
            return LIMITS[(int) answer];
        }
        return name.equals("descent") && answer == Transseria.NONE ? "NONE" : String.valueOf(answer);
    }

    // ---- what a place holds, as README.md writes it

    private static String text(Transseria room, int place) {
        switch (room.kind(place)) {
            case Transseria.NUMBER: return numberText(room.parts(place));
            case Transseria.GROWTH: return growthText(room, place);
            default: return Rooms.text(room, place);
        }
    }

    private static String numberText(long parts) {
        long below = Rooms.ONE;
        long above = parts;
        while (above % 2 == 0 && below > 1) {
            above /= 2;
            below /= 2;
        }
        return below == 1 ? String.valueOf(above) : above + "/" + below;
    }

    private static String growthText(Transseria room, int place) {
        StringBuilder text = new StringBuilder();
        int terms = room.terms(place);
        for (int k = 0; k < terms; k++) {
            long times = room.part(place, k, 0);
            String powers = powersText(room, place, k);
            text.append(k == 0 ? (times < 0 ? "-" : "") : (times < 0 ? " - " : " + "));
            text.append(Math.abs(times) > 1 || powers.isEmpty() ? String.valueOf(Math.abs(times)) : "");
            text.append(Math.abs(times) > 1 && !powers.isEmpty() ? "*" : "").append(powers);
        }
        return text.length() == 0 ? "0" : text.toString();
    }

    private static String powersText(Transseria room, int place, int k) {
        StringBuilder text = new StringBuilder();
        for (int what = 1; what <= 4; what++) {
            long exponent = room.part(place, k, what);
            if (exponent != 0) {
                text.append(text.length() > 0 ? "*" : "").append(POWERS[what - 1]).append(exponent == 1 ? "" : "^" + exponent);
            }
        }
        return text.toString();
    }

    // ---- all calls stand there

    private static void everyCallStandsThere(String page) {
        for (Method method : Transseria.class.getDeclaredMethods()) {
            if (Modifier.isPublic(method.getModifiers())) {
                String name = method.getName();
                C.right("an example in which " + name + " answers", answered.contains(name));
                C.right("an example in which " + name + " is refused", refused.contains(name));
                C.right("a row about " + name, page.contains("| `" + method.getReturnType() + " " + name + "("));
            }
        }
    }
}
