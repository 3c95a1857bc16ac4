import java.io.IOException;
import java.lang.management.ManagementFactory;
import java.lang.reflect.Field;
import java.lang.reflect.Method;
import java.lang.reflect.Modifier;
import java.nio.charset.StandardCharsets;
import java.nio.file.Files;
import java.nio.file.Path;
import java.util.ArrayList;
import java.util.Arrays;
import java.util.HashSet;
import java.util.List;
import java.util.Set;
import java.util.regex.Matcher;
import java.util.regex.Pattern;

/** The face as the document has it, the rules of LANGUAGE.md that a text can be searched for, and the room that a run takes. */
public final class RuleTests {
    private static final Check C = new Check();
    private static final String PLACE = "IndexOutOfBoundsException", ARGUMENT = "IllegalArgumentException", STATE = "IllegalStateException";

    public static void main(String[] args) throws IOException {
        faceHasOnlyWhatIsDue();
        faceThrowsWhatIsDue();
        constantsAreDue();
        sourceKeepsToTheRules(Path.of(args[0]));
        growthsTakeLittleRoom();
        ordinalsTakeLittleRoom();
        descentsTakeLittleRoom();
        refusedCallsKeepNothing();
        longUseThrowsNothingOfItsOwn();
        C.end("RuleTests");
    }

    // ---- the face

    private static void faceHasOnlyWhatIsDue() {
        C.right("the class is public and final", Modifier.isPublic(Transseria.class.getModifiers()) && Modifier.isFinal(Transseria.class.getModifiers()));
        C.due("constructors", Transseria.class.getDeclaredConstructors().length, 1);
        int methods = 0;
        Set<String> open = new HashSet<>();
        for (Method method : Transseria.class.getDeclaredMethods()) {
            if (!Modifier.isPrivate(method.getModifiers())) {
                methods++;
                open.add(method.getName());
                C.right(method + " is public and of an object", method.getModifiers() == Modifier.PUBLIC);
            }
        }
        C.due("methods", methods, 25);
        for (Method method : Transseria.class.getDeclaredMethods()) {
            C.right(method + " has a name of its own", !Modifier.isPrivate(method.getModifiers()) || !open.contains(method.getName()));
        }
        for (Field field : Transseria.class.getDeclaredFields()) {
            int want = Modifier.PUBLIC | Modifier.STATIC | Modifier.FINAL;
            C.right(field + " is a constant or private", field.getModifiers() == want || Modifier.isPrivate(field.getModifiers()));
        }
        for (Class<?> inside : Transseria.class.getDeclaredClasses()) {
            int seen = inside.getModifiers() & (Modifier.PUBLIC | Modifier.PROTECTED);
            C.right(inside + " is the class's own, and static", seen == 0 && Modifier.isStatic(inside.getModifiers()));
        }
    }

    private static void thrown(String name, String... want) {
        for (Method method : Transseria.class.getDeclaredMethods()) {
            if (method.getName().equals(name)) {
                List<String> got = new ArrayList<>();
                for (Class<?> exception : method.getExceptionTypes()) {
                    got.add(exception.getSimpleName());
                }
                C.right(name + " throws " + got, got.equals(Arrays.asList(want)));
            }
        }
    }

    private static void faceThrowsWhatIsDue() {
        for (String name : "kind clear".split(" ")) {
            thrown(name, PLACE);
        }
        for (String name : "finite number signs term".split(" ")) {
            thrown(name, PLACE, ARGUMENT);
        }
        for (String name : "omega sum product difference natural derive compare powers times exponent birthday signOf parts tends terms".split(" ")) {
            thrown(name, PLACE, STATE);
        }
        for (String name : "step descent cut part".split(" ")) {
            thrown(name, PLACE, ARGUMENT, STATE);
        }
    }

    private static void constantsAreDue() {
        int[] got = {Transseria.NONE, Transseria.NOTHING, Transseria.ORDINAL, Transseria.NUMBER, Transseria.GROWTH,
            Transseria.VANISHES, Transseria.SETTLES, Transseria.RISES, Transseria.FALLS};
        C.right("constants", Arrays.equals(got, new int[] {-1, 0, 1, 2, 3, 0, 1, 2, 3}));
        int open = 0;
        for (Field field : Transseria.class.getDeclaredFields()) {
            open += Modifier.isPublic(field.getModifiers()) ? 1 : 0;
        }
        C.due("how many constants", open, 9);
    }

    // ---- the text

    private static String withoutComments(String text) {
        return text.replaceAll("(?s)/\\*.*?\\*/", "").replaceAll("//[^\n]*", "");
    }

    /** What a text can be searched for, no more: what the rules allow is free. */
    private static void sourceKeepsToTheRules(Path source) throws IOException {
        String text = withoutComments(Files.readString(source, StandardCharsets.ISO_8859_1));
        String[] never = {"::", "\\bfinally\\b", "\\bsynchronized\\b", "\\bassert\\b", "\\bpackage\\b", "\\bprotected\\b", "\\bObject\\b",
            "\\bhashCode\\b", "Exact\\(", "\\bstatic\\s*\\{", "\\bSystem\\.(?!arraycopy)", "\n(?![^\n]*\\b(case|default)\\b)[^\n]*->",
            "\\bcatch\\s*\\((?:final )?[^)]*\\b(Throwable|Exception|Error|ArrayIndexOutOf|NullPointer|ClassCast|NegativeArray|ArrayStore)"};
        for (String one : never) {
            C.right("the text has no " + one, !Pattern.compile(one).matcher(text).find());
        }
        Matcher imports = Pattern.compile("import ([^;]*);").matcher(text);
        while (imports.find()) {
            C.right("import " + imports.group(1), imports.group(1).matches("java\\.util\\.(Arrays|ArrayList|List|Iterator|NoSuchElementException)"));
        }
        Matcher throwns = Pattern.compile("\\bthrow\\b([^;]*);").matcher(text);
        while (throwns.find()) {
            C.right("throw" + throwns.group(1), throwns.group(1).matches("\\s+new \\w+Exception\\((\"[^\"]*\")?\\)"));
        }
        Matcher statics = Pattern.compile("\\n\\s*(\\w+ )?static (?!final)([^(;{=]*)[;=]").matcher(text);
        C.right("every static field is final", !statics.find());
        C.right("some twelve classes at most", text.split("\\bclass\\b").length - 1 <= 14);
        for (String method : text.split("\n    (    )?}\n")) {
            C.right("no method is long: " + method.substring(0, Math.min(80, method.length())), method.split("\n").length <= 70);
        }
    }

    // ---- the room: 600,000 objects and arrays, of some 16 bytes each, and 7.3 million fields and elements, of up to 8 bytes

    private static final long MOST_BYTES = 16L * 600000 + 8L * 7300000;

    private static long bytes() {
        com.sun.management.ThreadMXBean threads = (com.sun.management.ThreadMXBean) ManagementFactory.getThreadMXBean();
        return threads.getThreadAllocatedBytes(Thread.currentThread().getId());
    }

    private static void tookLittle(String what, long before) {
        long took = bytes() - before;
        C.right(what + " took " + took + " bytes", took < MOST_BYTES);
    }

    private static void growthsTakeLittleRoom() {
        long before = bytes();
        Transseria x = new Transseria();
        x.term(0, 0, 0, 0, 0, 0);
        for (int k = -9; k <= 10; k++) {
            x.term(1, 1, 0, k, 0, 0);
            x.sum(0, 0, 1);
        }
        for (int k = 0; k < 235; k++) {
            try {
                x.product(2, 0, 0);
            } catch (IllegalStateException e) {
                x.derive(3, 0);
            }
        }
        tookLittle("512 calls with growths", before);
    }

    /** Eight powers, the exponents of which have eight each, and so on for four levels: more than four thousand in all. */
    private static void greatTree(Transseria x, int place) {
        Rooms.powersFrom(x, place, 0, 7);
        for (int level = 0; level < 3; level++) {
            x.exponent(14, place, 7);
            x.omega(14, 14);
            x.finite(13, 0);
            for (int k = 0; k < 8; k++) {
                x.sum(place, place, 14);
                x.omega(12, place);
                x.natural(13, 13, 12, false);
            }
            x.finite(12, 0);
            x.sum(place, 13, 12);
        }
    }

    private static void ordinalsTakeLittleRoom() {
        long before = bytes();
        Transseria x = new Transseria();
        Rooms.powersFrom(x, 0, 0, 3);
        Rooms.powersFrom(x, 1, 0, 4);
        greatTree(x, 6);
        greatTree(x, 7);
        C.due("two great trees, made for themselves", x.compare(6, 7), 0);
        x.omega(3, 0);
        for (int k = 0; k < 40; k++) {
            x.natural(2, 0, 1, true);
            x.natural(8, 6, 7, false);
            x.product(4, 3, 1);
            x.product(4, 0, 1);
            C.noState("64 pairs", () -> x.natural(8, 6, 7, true));
            x.step(5, 3, 9);
        }
        tookLittle("500 calls with ordinals", before);
    }

    /** What a refused call made on its way is not kept: 300 times 64 exponents would be more than there is room for. */
    private static void refusedCallsKeepNothing() {
        Transseria x = new Transseria();
        Rooms.powersFrom(x, 0, 0, 7);
        x.finite(1, 0);
        for (int k = 7; k >= 0; k--) {
            x.finite(2, 8 * k);
            x.omega(2, 2);
            x.sum(1, 1, 2);
        }
        for (int k = 0; k < 300; k++) {
            C.noState("64 pairs", () -> x.natural(3, 0, 1, true));
        }
        x.natural(3, 0, 0, false);
        C.due("room for what fits", x.times(3, 0), 2);
    }

    private static void descentsTakeLittleRoom() {
        long before = bytes();
        Transseria x = new Transseria();
        x.finite(0, 1);
        x.omega(0, 0);
        x.omega(1, 0);
        x.finite(3, 3);
        x.omega(3, 3);
        for (int k = 0; k < 125; k++) {
            x.descent(0, 1, 2000);
            x.descent(1, 2, 20);
            x.descent(3, 1, 2000);
            x.descent(3, 40, 2000);
        }
        tookLittle("500 descents", before);
    }

    /** What calls behind the 512th answer is free, but no exception of the machine may come, and none that the call does not name. */
    private static void longUseThrowsNothingOfItsOwn() {
        Transseria x = new Transseria();
        Rooms.powersFrom(x, 0, 0, 3);
        Rooms.powersFrom(x, 1, 0, 4);
        int unlike = 0;
        for (int k = 0; k < 20000; k++) {
            try {
                x.natural(2, 0, 1, true);
            } catch (IllegalStateException e) {
                unlike += e.getClass() == IllegalStateException.class ? 0 : 1;
            }
        }
        C.due("exceptions of another kind", unlike, 0);
    }
}
