import java.util.ArrayList;
import java.util.List;
import java.util.Random;

/** Runs of random calls, each of which PolyDesk must answer as the slow model does. */
public final class RandomTests {
    private static final int CALLS = 512;
    private static final String LETTERS = "+-x^0123459";

    private static int passed = 0;
    private static int failed = 0;

    private final Random random;
    private final PolyDesk desk = new PolyDesk();
    private final SlowDesk model = new SlowDesk();
    private final List<String> calls = new ArrayList<>();
    private boolean agrees = true;

    private RandomTests(long seed) {
        random = new Random(seed);
    }

    public static void main(String[] args) {
        int runs = args.length > 0 ? Integer.parseInt(args[0]) : 300;
        long first = args.length > 1 ? Long.parseLong(args[1]) : 1;
        for (long seed = first; seed < first + runs; seed++) {
            if (new RandomTests(seed).run()) {
                passed++;
            } else {
                failed++;
            }
        }
        comparePrefixes();
        compareDrawn();
        System.out.println("RandomTests: " + passed + " passed, " + failed + " failed");
        System.exit(failed == 0 ? 0 : 1);
    }

    private static void note(boolean isRight, String what) {
        passed += isRight ? 1 : 0;
        failed += isRight ? 0 : 1;
        if (!isRight) {
            System.out.println("wrong: " + what);
        }
    }

    /** All short texts over the letters that matter, and what may follow some longer beginnings. */
    private static void comparePrefixes() {
        int wrong = 0;
        for (String start : List.of("", "-", "x^5", "x^3-", "12x", "x^2+1", "-x+", "999", "2x^4-10", "x^5-x^4+x^3-x^2+")) {
            int size = start.isEmpty() ? 4 : 3;
            int all = (int) Math.pow(LETTERS.length(), size);
            for (int code = 0; code < all; code++) {
                StringBuilder text = new StringBuilder(start);
                for (int i = 0, left = code; i < size; i++, left /= LETTERS.length()) {
                    text.append(LETTERS.charAt(left % LETTERS.length()));
                }
                PolyDesk desk = new PolyDesk();
                SlowDesk model = new SlowDesk();
                desk.letter('s');
                desk.desk();
                model.letter('s');
                model.desk();
                for (char c : text.toString().toCharArray()) {
                    desk.letter(c);
                    model.letter(c);
                }
                if (desk.fault() != model.fault() || desk.put(0) != model.put(0) || desk.number(0, 1) != model.number(0, 1)) {
                    System.out.println("wrong for the text " + text);
                    wrong++;
                }
            }
        }
        note(wrong == 0, "short texts");
    }

    private static void compareDrawn() {
        int wrong = 0;
        Random random = new Random(23);
        for (int i = 0; i < 3000; i++) {
            int seed = i < 100 ? i : random.nextInt(Integer.MAX_VALUE);
            for (int what = 0; what < 3; what++) {
                if (new PolyDesk().drawn(1 + i % 4, seed, what) != new SlowDesk().drawn(1 + i % 4, seed, what)) {
                    System.out.println("wrong: drawn(" + (1 + i % 4) + ", " + seed + ", " + what + ")");
                    wrong++;
                }
            }
        }
        note(wrong == 0, "drawn");
    }

    private boolean run() {
        for (int i = 0; i < CALLS && agrees; i++) {
            step();
        }
        same("digest()", desk.digest(), model.digest());
        return agrees;
    }

    private void same(String call, long got, long due) {
        calls.add(call);
        if (got != due && agrees) {
            agrees = false;
            System.out.println("wrong: " + call + " answered " + got + ", due is " + due + ", after " + calls);
        }
    }

    private int below(int n) {
        return random.nextInt(n);
    }

    private int slot() {
        return below(30) == 0 ? List.of(-1, 4, 5, Integer.MIN_VALUE, Integer.MAX_VALUE).get(below(5)) : below(random.nextBoolean() ? 2 : 4);
    }

    /** Mostly from least to most, now and then just or far outside. */
    private int near(int least, int most) {
        if (below(15) == 0) {
            return List.of(least - 1, most + 1, Integer.MIN_VALUE, Integer.MAX_VALUE).get(below(4));
        }
        return least + below(most - least + 1);
    }

    private void type(String text) {
        if (below(8) > 0) {
            same("blank()", desk.blank(), model.blank());
        }
        for (char c : text.toCharArray()) {
            same("letter(" + (int) c + ")", desk.letter(c), model.letter(c));
        }
    }

    private String deskText() {
        StringBuilder text = new StringBuilder();
        int size = below(20) == 0 ? below(6) : 1 + below(4);
        for (int i = 0; i < size; i++) {
            text.append(below(60) == 0 ? 'q' : "spftm".charAt(below(5)));
        }
        return text.toString();
    }

    private int coefficient() {
        return switch (below(6)) {
            case 0 -> 0;
            case 1 -> below(1999) - 999;
            case 2 -> List.of(999, -999, 1, -1, 840, 720, -720, 100, 10, 99).get(below(10));
            default -> below(11) - 5;
        };
    }

    /** A polynomial, often one with several factors. */
    private long[] polynomial() {
        long[] result = {1, 0, 0, 0, 0, 0};
        int degree = 0;
        while (degree < 5 && below(7) > 0) {
            int more = 1 + below(Math.min(5 - degree, 1 + below(5)));
            long[] by = new long[more + 1];
            int spread = below(3) == 0 ? 30 : 3;
            for (int k = 0; k <= more; k++) {
                by[k] = below(3) == 0 ? coefficient() : below(2 * spread + 1) - spread;
            }
            int times = below(3) == 0 ? 2 + below(2) : 1;
            for (int i = 0; i < times && degree + more <= 5; i++) {
                long[] product = new long[6];
                for (int a = 0; a <= degree; a++) {
                    for (int b = 0; b <= more; b++) {
                        product[a + b] += result[a] * by[b];
                    }
                }
                degree += more;
                result = product;
            }
        }
        int content = below(3) == 0 ? below(13) - 6 : 1;
        boolean fits = false;
        for (int k = 0; k < 6; k++) {
            result[k] *= content;
            fits |= result[k] != 0;
        }
        for (int k = 0; k < 6; k++) {
            fits &= Math.abs(result[k]) <= 999;
        }
        return fits ? result : polynomial();
    }

    private String polynomialText() {
        String text = SlowDesk.written(SlowDesk.poly(polynomial()));
        if (below(12) == 0) {
            int place = below(text.length() + 1);
            text = text.substring(0, place) + LETTERS.charAt(below(LETTERS.length())) + text.substring(place);
        }
        if (below(12) == 0) {
            text = text.substring(0, below(text.length() + 1));
        }
        return text.length() > 40 ? text.substring(0, 40) : text;
    }

    private void step() {
        if (below(calls.isEmpty() ? 1 : 40) == 0) {
            type(deskText());
            same("desk()", desk.desk(), model.desk());
            return;
        }
        int a = slot();
        int b = slot();
        int c = slot();
        switch (below(24)) {
            case 0, 1, 2, 3 -> {
                type(polynomialText());
                same("fault()", desk.fault(), model.fault());
                same("put(" + a + ")", desk.put(a), model.put(a));
            }
            case 4 -> {
                int code = below(4) == 0 ? near(32, 126) : LETTERS.charAt(below(LETTERS.length()));
                same("letter(" + code + ")", desk.letter(code), model.letter(code));
            }
            case 5 -> {
                for (int what = -1; what <= 8; what++) {
                    same("slot(" + a + ", " + what + ")", desk.slot(a, what), model.slot(a, what));
                }
            }
            case 6 -> {
                int kind = near(0, 4);
                same("as(" + a + ", " + kind + ")", desk.as(a, kind), model.as(a, kind));
            }
            case 7 -> {
                int power = near(0, 5);
                same("number(" + a + ", " + power + ")", desk.number(a, power), model.number(a, power));
            }
            case 8 -> {
                int place = near(0, 15);
                same("text(" + a + ", " + place + ")", desk.text(a, place), model.text(a, place));
            }
            case 9, 10 -> {
                int factor = near(0, 4);
                int what = near(0, 7);
                same("factor(" + a + ", " + factor + ", " + what + ")", desk.factor(a, factor, what), model.factor(a, factor, what));
            }
            case 11 -> {
                int x = near(-9, 9);
                same("value(" + a + ", " + x + ")", desk.value(a, x), model.value(a, x));
            }
            case 12 -> same("add(" + a + ", " + b + ", " + c + ")", desk.add(a, b, c), model.add(a, b, c));
            case 13 -> same("times(" + a + ", " + b + ", " + c + ")", desk.times(a, b, c), model.times(a, b, c));
            case 14 -> same("common(" + a + ", " + b + ", " + c + ")", desk.common(a, b, c), model.common(a, b, c));
            case 15 -> same("slope(" + a + ", " + b + ")", desk.slope(a, b), model.slope(a, b));
            case 16 -> {
                int by = near(-9, 9) / (1 + below(5));
                same("move(" + a + ", " + by + ", " + b + ")", desk.move(a, by, b), model.move(a, by, b));
            }
            case 17 -> {
                int kind = near(0, 4);
                same("be(" + a + ", " + kind + ")", desk.be(a, kind), model.be(a, kind));
            }
            case 18 -> {
                int prime = below(8) == 0 ? near(0, 20) : List.of(2, 3, 5, 7, 11, 13).get(below(6));
                int what = near(0, 1);
                same("parts(" + a + ", " + prime + ", " + what + ")", desk.parts(a, prime, what), model.parts(a, prime, what));
            }
            case 19 -> same("degrees(" + a + ")", desk.degrees(a), model.degrees(a));
            case 20 -> {
                int what = near(0, 3);
                boolean could = random.nextBoolean();
                same("see(" + a + ", " + what + ", " + could + ")", desk.see(a, what, could), model.see(a, what, could));
            }
            case 21 -> {
                if (random.nextBoolean()) {
                    same("forget()", desk.forget(), model.forget());
                } else {
                    int times = near(1, 4);
                    int seed = below(5) == 0 ? near(0, 9) : below(Integer.MAX_VALUE);
                    int what = near(0, 2);
                    same("drawn(" + times + ", " + seed + ", " + what + ")",
                            desk.drawn(times, seed, what), model.drawn(times, seed, what));
                }
            }
            case 22 -> {
                if (random.nextBoolean()) {
                    same("image()", desk.image(), model.image());
                } else {
                    same("restore()", desk.restore(), model.restore());
                }
            }
            default -> {
                int what = near(0, 7);
                same("count(" + what + ")", desk.count(what), model.count(what));
                same("digest()", desk.digest(), model.digest());
            }
        }
    }
}
