import java.io.IOException;
import java.lang.reflect.Field;
import java.lang.reflect.Member;
import java.lang.reflect.Method;
import java.lang.reflect.Modifier;
import java.nio.file.Files;
import java.nio.file.Path;
import java.util.ArrayList;
import java.util.HashSet;
import java.util.List;
import java.util.Random;
import java.util.Set;
import java.util.regex.Matcher;
import java.util.regex.Pattern;

/** What can be seen of LANGUAGE.md's rules: the source's words, the face, no throw and no new object in any call. */
public final class LanguageTests {
    private static final Set<String> FACE = Set.of("letter", "blank", "fault", "desk", "put", "slot", "as", "number",
            "text", "factor", "value", "add", "times", "common", "slope", "move", "be", "parts", "degrees", "see",
            "forget", "drawn", "image", "restore", "count", "digest");

    private static int passed = 0;
    private static int failed = 0;

    public static void main(String[] args) throws IOException {
        String source = Files.readString(Path.of(args.length > 0 ? args[0] : "src/main/java/PolyDesk.java"));
        words(withoutTexts(source));
        lengths(source);
        face();
        noThrow();
        noObjects();
        System.out.println("LanguageTests: " + passed + " passed, " + failed + " failed");
        System.exit(failed == 0 ? 0 : 1);
    }

    private static void due(boolean isRight, String what) {
        passed += isRight ? 1 : 0;
        failed += isRight ? 0 : 1;
        if (!isRight) {
            System.out.println("against LANGUAGE.md: " + what);
        }
    }

    private static String withoutTexts(String source) {
        return source.replaceAll("(?s)/\\*.*?\\*/", " ").replaceAll("//[^\n]*", " ")
                .replaceAll("\"(?:[^\"\\\\]|\\\\.)*\"", "\"\"").replaceAll("'(?:[^'\\\\]|\\\\.)'", "' '");
    }

    private static void words(String source) {
        for (String word : List.of("throw", "throws", "try", "catch", "finally", "synchronized", "assert", "package",
                "import", "protected", "volatile", "native", "equals", "hashCode", "toString", "Object", "Exception",
                "Thread", "Random", "Runtime", "var", "sealed", "yield")) {
            due(!Pattern.compile("\\b" + word + "\\b").matcher(source).find(), word);
        }
        for (String sign : List.of("->", "::", "@", "Exact(")) {
            due(!source.contains(sign), sign);
        }
        Matcher calls = Pattern.compile("\\b(Math|Integer|Long|System|Arrays|List|String)\\.(\\w+)").matcher(source);
        Set<String> allowed = Set.of("Math.abs", "Math.min", "Math.max", "Math.floorMod", "Integer.bitCount");
        while (calls.find()) {
            due(allowed.contains(calls.group()), calls.group());
        }
        Matcher statics = Pattern.compile("\\bstatic\\b(?! final\\b)[^(;={]*[;=]").matcher(source);
        due(!statics.find(), "a static field that is not final");
        due(!Pattern.compile("\\bstatic\\s*\\{").matcher(source).find(), "static block");
    }

    /** Methods are at most sixty lines long and take at most seven parameters. */
    private static void lengths(String source) {
        String[] lines = source.split("\n");
        int start = -1;
        for (int i = 0; i < lines.length; i++) {
            if (lines[i].matches("( {4}| {8})[\\w].*\\) \\{")) {
                start = i;
                due(lines[i].replaceAll("[^,]", "").length() < 7, "parameters: " + lines[i].trim());
            } else if (start >= 0 && lines[i].matches("( {4}| {8})\\}")) {
                due(i - start < 60, "length: " + lines[start].trim());
                start = -1;
            }
        }
    }

    private static void face() {
        Set<String> names = new HashSet<>();
        for (Method method : PolyDesk.class.getDeclaredMethods()) {
            if (!method.isSynthetic()) {
                boolean isFace = FACE.contains(method.getName());
                due(Modifier.isPublic(method.getModifiers()) == isFace, "visibility of " + method.getName());
                due(isFace || Modifier.isPrivate(method.getModifiers()), "visibility of " + method.getName());
                names.add(method.getName());
            }
        }
        due(names.containsAll(FACE), "the whole face");
        Set<String> constants = Set.of("NONE", "UNKNOWN", "OUTSIDE", "STATE", "FULL");
        int fields = 0;
        for (Field field : PolyDesk.class.getDeclaredFields()) {
            boolean isFace = constants.contains(field.getName());
            due(isFace ? Modifier.isPublic(field.getModifiers()) : isPrivate(field), "visibility of " + field.getName());
            fields += Modifier.isStatic(field.getModifiers()) ? 0 : 1;
        }
        due(fields <= 20, "fields of PolyDesk");
        Class<?>[] inside = PolyDesk.class.getDeclaredClasses();
        due(inside.length < 12, "classes inside");
        for (Class<?> one : inside) {
            due(Modifier.isStatic(one.getModifiers()) && !Modifier.isPublic(one.getModifiers()), one.getName());
            inside(one);
        }
    }

    private static void inside(Class<?> one) {
        for (Method method : one.getDeclaredMethods()) {
            due(!FACE.contains(method.getName()), one.getName() + ": the name of a public method, " + method.getName());
        }
        int fields = 0;
        for (Field field : one.getDeclaredFields()) {
            fields += Modifier.isStatic(field.getModifiers()) ? 0 : 1;
        }
        due(fields <= 20, "fields of " + one.getName());
        due(one.getDeclaredClasses().length == 0, "classes inside " + one.getName());
    }

    private static boolean isPrivate(Member member) {
        return Modifier.isPrivate(member.getModifiers());
    }

    // ---- calls

    private static final int[] STRANGE = {Integer.MIN_VALUE, -1000, -103, -9, -2, -1, 0, 1, 2, 3, 4, 5, 6, 7, 8, 13, 40, 126, Integer.MAX_VALUE};
    private static final int[] LETTERS = {'s', 'p', 'f', 't', 'm', '+', '-', 'x', 'x', '^', '0', '1', '2', '3', '9'};

    private static int any(Random random) {
        return random.nextInt(3) > 0 ? random.nextInt(4) : STRANGE[random.nextInt(STRANGE.length)];
    }

    private static long call(PolyDesk x, Random random) {
        int a = any(random);
        int b = any(random);
        int c = any(random);
        switch (random.nextInt(30)) {
            case 0: return x.put(a);
            case 1: return x.slot(a, b);
            case 2: return x.as(a, b);
            case 3: return x.number(a, b);
            case 4: return x.text(a, b);
            case 5: return x.factor(a, b, c);
            case 6: return x.value(a, b);
            case 7: return x.add(a, b, c);
            case 8: return x.times(a, b, c);
            case 9: return x.common(a, b, c);
            case 10: return x.slope(a, b);
            case 11: return x.move(a, b, c);
            case 12: return x.be(a, b);
            case 13: return x.parts(a, b, c);
            case 14: return x.degrees(a);
            case 15: return x.see(a, b, c > 1);
            case 16: return x.forget();
            case 17: return x.drawn(a, b, c);
            case 18: return x.image();
            case 19: return x.restore();
            case 20: return x.count(a);
            case 21: return x.digest();
            case 22: return x.desk();
            case 23: return x.fault();
            case 24: return x.letter(a);
            case 25: return random.nextInt(10) == 0 ? x.blank() : 0;
            default: return x.letter(LETTERS[random.nextInt(LETTERS.length)]);
        }
    }

    private static void type(PolyDesk x, int... codes) {
        x.blank();
        for (int code : codes) {
            x.letter(code);
        }
    }

    private static PolyDesk filled() {
        PolyDesk x = new PolyDesk();
        type(x, 's', 'f', 't', 'm');
        x.desk();
        for (int slot = 0; slot < 4; slot++) {
            type(x, '8', '4', '0', 'x', '^', '5', '-', 'x', '^', '2', '+', '8', '4', '0');
            x.put(slot);
        }
        return x;
    }

    /** Strange arguments in all states, far beyond 512 calls too. */
    private static void noThrow() {
        List<String> thrown = new ArrayList<>();
        for (int seed = 0; seed < 2000; seed++) {
            Random random = new Random(seed);
            PolyDesk x = seed % 2 == 0 ? new PolyDesk() : filled();
            try {
                for (int i = 0; i < 700; i++) {
                    call(x, random);
                }
            } catch (RuntimeException e) {
                thrown.add(seed + ": " + e);
            }
        }
        due(thrown.isEmpty(), "calls that throw: " + thrown);
    }

    /** All rows are made with the object: the calls themselves leave the room as it is. */
    private static void noObjects() {
        com.sun.management.ThreadMXBean room =
                (com.sun.management.ThreadMXBean) java.lang.management.ManagementFactory.getThreadMXBean();
        PolyDesk x = filled();
        Random random = new Random(5);
        long id = Thread.currentThread().getId();
        room.getThreadAllocatedBytes(id);
        long before = room.getThreadAllocatedBytes(id);
        for (int i = 0; i < 20000; i++) {
            call(x, random);
        }
        long used = room.getThreadAllocatedBytes(id) - before;
        due(used < 20000, "bytes for 20000 calls: " + used);
    }
}
