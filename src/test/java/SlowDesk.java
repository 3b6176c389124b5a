import java.math.BigInteger;
import java.util.ArrayList;
import java.util.Arrays;
import java.util.List;
import java.util.TreeSet;

/**
 * The document's words once more, slowly and by other ways than PolyDesk takes: texts by trying all
 * ends, factors by Kronecker's interpolation, parts by powers of x. The model for random runs.
 */
final class SlowDesk {
    static final int NONE = -1, UNKNOWN = -101, OUTSIDE = -102, STATE = -103, FULL = -104;
    private static final List<Integer> PRIMES = List.of(2, 3, 5, 7, 11, 13);

    /** An irreducible factor, the coefficients from power 0 on, without leading zeros. */
    record Factor(BigInteger[] base, int times) { }

    private record Note(int slot, int what, boolean could) { }

    private static final class Slot {
        int kind;
        BigInteger[] held;

        Slot(int kind, BigInteger[] held) {
            this.kind = kind;
            this.held = held;
        }
    }

    private String page = "";
    private List<Slot> slots = new ArrayList<>();
    private List<Note> notes = new ArrayList<>();
    private int desks = 0;
    private List<Slot> savedSlots = null;
    private List<Note> savedNotes = null;

    // ---- polynomials

    static BigInteger[] poly(long... coefficients) {
        BigInteger[] result = new BigInteger[coefficients.length];
        for (int i = 0; i < result.length; i++) {
            result[i] = BigInteger.valueOf(coefficients[i]);
        }
        return trimmed(result);
    }

    private static BigInteger[] trimmed(BigInteger[] f) {
        int n = f.length;
        while (n > 0 && f[n - 1].signum() == 0) {
            n--;
        }
        return Arrays.copyOf(f, n);
    }

    private static BigInteger[] product(BigInteger[] f, BigInteger[] g) {
        BigInteger[] result = new BigInteger[f.length + g.length - 1];
        Arrays.fill(result, BigInteger.ZERO);
        for (int i = 0; i < f.length; i++) {
            for (int j = 0; j < g.length; j++) {
                result[i + j] = result[i + j].add(f[i].multiply(g[j]));
            }
        }
        return result;
    }

    private static BigInteger content(BigInteger[] f) {
        BigInteger result = BigInteger.ZERO;
        for (BigInteger c : f) {
            result = result.gcd(c);
        }
        return f[f.length - 1].signum() < 0 ? result.negate() : result;
    }

    private static BigInteger[] primitive(BigInteger[] f) {
        BigInteger content = content(f);
        BigInteger[] result = new BigInteger[f.length];
        for (int i = 0; i < f.length; i++) {
            result[i] = f[i].divide(content);
        }
        return result;
    }

    private static BigInteger valueOf(BigInteger[] f, long x) {
        BigInteger sum = BigInteger.ZERO;
        for (int i = 0; i < f.length; i++) {
            sum = sum.add(f[i].multiply(BigInteger.valueOf(x).pow(i)));
        }
        return sum;
    }

    /** The quotient; null if something is left. */
    private static BigInteger[] quotient(BigInteger[] f, BigInteger[] g) {
        BigInteger[] left = f.clone();
        if (f.length < g.length) {
            return null;
        }
        BigInteger[] result = new BigInteger[f.length - g.length + 1];
        for (int k = result.length - 1; k >= 0; k--) {
            BigInteger[] parts = left[k + g.length - 1].divideAndRemainder(g[g.length - 1]);
            if (parts[1].signum() != 0) {
                return null;
            }
            result[k] = parts[0];
            for (int j = 0; j < g.length; j++) {
                left[k + j] = left[k + j].subtract(parts[0].multiply(g[j]));
            }
        }
        return trimmed(left).length == 0 ? result : null;
    }

    private static TreeSet<Long> divisors(BigInteger number) {
        TreeSet<Long> result = new TreeSet<>();
        long n = number.abs().longValueExact();
        for (long d = 1; d * d <= n; d++) {
            if (n % d == 0) {
                result.addAll(List.of(d, -d, n / d, -n / d));
            }
        }
        return result;
    }

    /** Some factor of degree 1; null if there is none. */
    private static BigInteger[] linearFactor(BigInteger[] f) {
        if (f[0].signum() == 0) {
            return poly(0, 1);
        }
        for (long a : divisors(f[f.length - 1])) {
            for (long b : divisors(f[0])) {
                if (a > 0 && BigInteger.valueOf(a).gcd(BigInteger.valueOf(b)).equals(BigInteger.ONE)
                        && quotient(f, poly(b, a)) != null) {
                    return poly(b, a);
                }
            }
        }
        return null;
    }

    /** Some factor of degree 2 of a polynomial that has none of degree 1, through its values at -1, 0 and 1. */
    private static BigInteger[] quadraticFactor(BigInteger[] f) {
        long lead = f[f.length - 1].longValueExact();
        for (long c : divisors(f[0])) {
            for (long plus : divisors(valueOf(f, 1))) {
                for (long minus : divisors(valueOf(f, -1))) {
                    long doubleA = plus + minus - 2 * c;
                    if (doubleA > 0 && doubleA % 2 == 0 && lead % (doubleA / 2) == 0 && (plus - minus) % 2 == 0) {
                        BigInteger[] g = poly(c, (plus - minus) / 2, doubleA / 2);
                        if (quotient(f, g) != null) {
                            return primitive(g);
                        }
                    }
                }
            }
        }
        return null;
    }

    private static int compare(BigInteger[] f, BigInteger[] g) {
        if (f.length != g.length) {
            return Integer.compare(f.length, g.length);
        }
        for (int k = f.length - 1; k >= 0; k--) {
            if (f[k].compareTo(g[k]) != 0) {
                return f[k].compareTo(g[k]);
            }
        }
        return 0;
    }

    static List<Factor> factors(BigInteger[] whole) {
        List<BigInteger[]> all = new ArrayList<>();
        BigInteger[] rest = primitive(whole);
        while (rest.length > 1) {
            BigInteger[] found = linearFactor(rest);
            if (found == null && rest.length > 4) {
                found = quadraticFactor(rest);
            }
            if (found == null) {
                found = rest;
            }
            all.add(found);
            rest = quotient(rest, found);
        }
        all.sort(SlowDesk::compare);
        List<Factor> result = new ArrayList<>();
        for (BigInteger[] base : all) {
            int last = result.size() - 1;
            if (last >= 0 && compare(result.get(last).base, base) == 0) {
                result.set(last, new Factor(base, result.get(last).times + 1));
            } else {
                result.add(new Factor(base, 1));
            }
        }
        return result;
    }

    // ---- modulo primes

    private static long[] trimmed(long[] f) {
        int n = f.length;
        while (n > 0 && f[n - 1] == 0) {
            n--;
        }
        return Arrays.copyOf(f, n);
    }

    private static long inverse(long a, long p) {
        return BigInteger.valueOf(a).modInverse(BigInteger.valueOf(p)).longValue();
    }

    private static long[] remainder(long[] f, long[] g, long p) {
        long[] left = trimmed(f);
        while (left.length >= g.length) {
            long q = left[left.length - 1] * inverse(g[g.length - 1], p) % p;
            int shift = left.length - g.length;
            for (int j = 0; j < g.length; j++) {
                left[shift + j] = Math.floorMod(left[shift + j] - q * g[j], p);
            }
            left = trimmed(left);
        }
        return left;
    }

    private static long[] divisor(long[] f, long[] g, long p) {
        return g.length == 0 ? f : divisor(g, remainder(f, g, p), p);
    }

    private static long[] exactQuotient(long[] f, long[] g, long p) {
        long[] left = f.clone();
        long[] result = new long[f.length - g.length + 1];
        for (int k = result.length - 1; k >= 0; k--) {
            result[k] = left[k + g.length - 1] * inverse(g[g.length - 1], p) % p;
            for (int j = 0; j < g.length; j++) {
                left[k + j] = Math.floorMod(left[k + j] - result[k] * g[j], p);
            }
        }
        return result;
    }

    private static long[] timesModulo(long[] f, long[] g, long[] modulus, long p) {
        long[] result = new long[f.length + g.length];
        for (int i = 0; i < f.length; i++) {
            for (int j = 0; j < g.length; j++) {
                result[i + j] = (result[i + j] + f[i] * g[j]) % p;
            }
        }
        return remainder(result, modulus, p);
    }

    /** The degrees of the parts in ascending order; null if the polynomial is not good. */
    static List<Integer> partDegrees(BigInteger[] whole, int p) {
        long[] f = new long[whole.length];
        long[] slope = new long[whole.length];
        for (int k = 0; k < f.length; k++) {
            f[k] = whole[k].mod(BigInteger.valueOf(p)).longValue();
            if (k > 0) {
                slope[k - 1] = f[k] * k % p;
            }
        }
        if (f.length < 2 || f[f.length - 1] == 0 || divisor(f, trimmed(slope), p).length != 1) {
            return null;
        }
        List<Integer> result = new ArrayList<>();
        long[] rest = f;
        long[] power = {0, 1};
        for (int degree = 1; rest.length > 1; degree++) {
            long[] base = remainder(power, rest, p);
            power = new long[] {1};
            for (int i = 0; i < p; i++) {
                power = timesModulo(power, base, rest, p);
            }
            long[] difference = Arrays.copyOf(power, Math.max(power.length, 2));
            difference[1] = Math.floorMod(difference[1] - 1, p);
            long[] found = divisor(rest, trimmed(difference), p);
            for (int i = 0; i < (found.length - 1) / degree; i++) {
                result.add(degree);
            }
            rest = exactQuotient(rest, found, p);
        }
        return result;
    }

    private static TreeSet<Integer> sums(List<Integer> degrees, int from) {
        if (from == degrees.size()) {
            return new TreeSet<>(List.of(0));
        }
        TreeSet<Integer> without = sums(degrees, from + 1);
        TreeSet<Integer> result = new TreeSet<>(without);
        for (int sum : without) {
            result.add(sum + degrees.get(from));
        }
        return result;
    }

    // ---- texts

    /** The polynomial of a text; null if it is not the text of one. */
    static BigInteger[] parsed(String text) {
        String number = "[1-9][0-9]{0,2}";
        String term = "(?:(?:(?!1x)" + number + ")?x(?:\\^[2-5])?|" + number + ")";
        if (!text.matches("-?" + term + "(?:[+-]" + term + ")*")) {
            return null;
        }
        BigInteger[] result = new BigInteger[6];
        Arrays.fill(result, BigInteger.ZERO);
        int last = 6;
        for (String part : text.replace("-", "+-").split("\\+")) {
            if (part.isEmpty()) {
                continue;
            }
            int x = part.indexOf('x');
            int power = x < 0 ? 0 : x == part.length() - 1 ? 1 : part.charAt(part.length() - 1) - '0';
            String amount = x < 0 ? part : part.substring(0, x);
            if (amount.isEmpty() || amount.equals("-")) {
                amount += "1";
            }
            if (power >= last) {
                return null;
            }
            last = power;
            result[power] = new BigInteger(amount);
        }
        return trimmed(result);
    }

    static boolean canBegin(String text) {
        for (String end : List.of("", "1", "2", "3", "4", "5", "x")) {
            if (parsed(text + end) != null) {
                return true;
            }
        }
        return false;
    }

    static String written(BigInteger[] f) {
        StringBuilder result = new StringBuilder();
        for (int k = f.length - 1; k >= 0; k--) {
            int sign = f[k].signum();
            if (sign != 0) {
                String amount = f[k].abs().toString();
                result.append(sign < 0 ? "-" : result.length() > 0 ? "+" : "");
                result.append(k > 0 && amount.equals("1") ? "" : amount);
                result.append(k == 0 ? "" : k == 1 ? "x" : "x^" + k);
            }
        }
        return result.toString();
    }

    // ---- the face

    int letter(int code) {
        if (code < 32 || code > 126) {
            return OUTSIDE;
        }
        if (page.length() == 40) {
            return FULL;
        }
        page += (char) code;
        return page.length();
    }

    int blank() {
        int before = page.length();
        page = "";
        return before;
    }

    int fault() {
        for (int i = 0; i < page.length(); i++) {
            if (!canBegin(page.substring(0, i + 1))) {
                return i;
            }
        }
        return page.length();
    }

    int desk() {
        if (!page.matches("[spftm]{1,4}")) {
            return STATE;
        }
        slots = new ArrayList<>();
        for (char c : page.toCharArray()) {
            slots.add(new Slot("spftm".indexOf(c), null));
        }
        notes = new ArrayList<>();
        savedSlots = null;
        desks++;
        page = "";
        return slots.size();
    }

    private boolean isSlot(int slot) {
        return slot >= 0 && slot < slots.size();
    }

    private BigInteger[] held(int slot) {
        return isSlot(slot) ? slots.get(slot).held : null;
    }

    private static boolean isInRange(BigInteger[] f) {
        return Arrays.stream(f).allMatch(c -> c.abs().intValueExact() <= 999);
    }

    private int settle(BigInteger[] raw, int to) {
        if (!isInRange(raw)) {
            return FULL;
        }
        BigInteger[] result = trimmed(raw);
        switch (slots.get(to).kind) {
            case 1 -> result = primitive(result);
            case 2 -> {
                List<Factor> all = factors(result);
                result = poly(1);
                for (Factor factor : all) {
                    result = product(result, factor.base);
                }
            }
            case 3 -> {
                BigInteger[] turned = new BigInteger[result.length];
                for (int k = 0; k < turned.length; k++) {
                    turned[k] = result[turned.length - 1 - k];
                }
                result = trimmed(turned);
            }
            case 4 -> {
                for (int k = 1; k < result.length; k += 2) {
                    result[k] = result[k].negate();
                }
            }
            default -> { }
        }
        if (!isInRange(result)) {
            return FULL;
        }
        slots.get(to).held = result;
        return result.length - 1;
    }

    int put(int slot) {
        if (!isSlot(slot)) {
            return UNKNOWN;
        }
        BigInteger[] f = parsed(page);
        if (f == null) {
            return STATE;
        }
        int degree = settle(f, slot);
        if (degree != FULL) {
            page = "";
        }
        return degree;
    }

    private boolean canHappen(int what, int kind) {
        return switch (what) {
            case 0 -> kind == 1 || kind == 2;
            case 1 -> kind == 2;
            case 2 -> kind != 0;
            default -> kind == 1 || kind == 2 || kind == 3;
        };
    }

    private List<Integer> candidates(int slot) {
        List<Integer> result = new ArrayList<>();
        for (int kind = 0; kind < 5; kind++) {
            boolean fits = true;
            for (Note note : notes) {
                fits &= note.slot != slot || canHappen(note.what, kind) == note.could;
            }
            if (fits) {
                result.add(kind);
            }
        }
        return result;
    }

    private int nextQuestion(List<Integer> candidates) {
        int best = NONE;
        long fewest = Long.MAX_VALUE;
        for (int what = 0; what < 4 && !candidates.isEmpty(); what++) {
            int asked = what;
            long can = candidates.stream().filter(kind -> canHappen(asked, kind)).count();
            long worse = Math.max(can, candidates.size() - can);
            if (worse < fewest) {
                fewest = worse;
                best = what;
            }
        }
        return best;
    }

    int slot(int slot, int what) {
        if (!isSlot(slot)) {
            return UNKNOWN;
        }
        if (what < 0 || what > 7) {
            return OUTSIDE;
        }
        BigInteger[] f = held(slot);
        return switch (what) {
            case 0 -> slots.get(slot).kind;
            case 1 -> f == null ? NONE : f.length - 1;
            case 2 -> f == null ? 0 : 1000 + content(f).intValueExact();
            case 3 -> f == null ? 0 : written(f).length();
            case 4 -> f == null ? 0 : factors(f).size();
            case 5 -> f == null ? 0 : factors(f).stream().mapToInt(Factor::times).sum();
            case 6 -> candidates(slot).stream().mapToInt(kind -> 1 << kind).sum();
            default -> nextQuestion(candidates(slot));
        };
    }

    int as(int slot, int kind) {
        if (!isSlot(slot)) {
            return UNKNOWN;
        }
        if (kind < 0 || kind > 4) {
            return OUTSIDE;
        }
        List<List<Integer>> types = List.of(List.of(0), List.of(0, 1), List.of(0, 1, 2), List.of(0, 3), List.of(0, 4));
        return types.get(slots.get(slot).kind).contains(kind) ? slot : NONE;
    }

    int number(int slot, int power) {
        BigInteger[] f = held(slot);
        if (f == null) {
            return UNKNOWN;
        }
        if (power < 0 || power > 5) {
            return OUTSIDE;
        }
        return 1000 + (power < f.length ? f[power].intValueExact() : 0);
    }

    int text(int slot, int place) {
        BigInteger[] f = held(slot);
        return f == null || place < 0 || place >= written(f).length() ? UNKNOWN : written(f).charAt(place);
    }

    int factor(int slot, int factor, int what) {
        BigInteger[] f = held(slot);
        if (f == null || factor < 0 || factor >= factors(f).size()) {
            return UNKNOWN;
        }
        if (what < 0 || what > 7) {
            return OUTSIDE;
        }
        Factor found = factors(f).get(factor);
        if (what < 2) {
            return what == 0 ? found.base.length - 1 : found.times;
        }
        return 100000 + (what - 2 < found.base.length ? found.base[what - 2].intValueExact() : 0);
    }

    long value(int slot, int x) {
        BigInteger[] f = held(slot);
        if (f == null) {
            return UNKNOWN;
        }
        return x < -9 || x > 9 ? OUTSIDE : valueOf(f, x).longValueExact();
    }

    int add(int one, int other, int to) {
        BigInteger[] f = held(one);
        BigInteger[] g = held(other);
        if (f == null || g == null || !isSlot(to)) {
            return UNKNOWN;
        }
        BigInteger[] sum = new BigInteger[6];
        for (int k = 0; k < 6; k++) {
            sum[k] = (k < f.length ? f[k] : BigInteger.ZERO).add(k < g.length ? g[k] : BigInteger.ZERO);
        }
        return trimmed(sum).length == 0 ? STATE : settle(sum, to);
    }

    int times(int one, int other, int to) {
        BigInteger[] f = held(one);
        BigInteger[] g = held(other);
        if (f == null || g == null || !isSlot(to)) {
            return UNKNOWN;
        }
        return f.length + g.length - 2 > 5 ? FULL : settle(product(f, g), to);
    }

    int common(int one, int other, int to) {
        BigInteger[] f = held(one);
        BigInteger[] g = held(other);
        if (f == null || g == null || !isSlot(to)) {
            return UNKNOWN;
        }
        BigInteger[] result = {content(f).gcd(content(g))};
        for (Factor factor : factors(f)) {
            BigInteger[] left = primitive(g);
            for (int i = 0; i < factor.times && left != null; i++) {
                left = quotient(left, factor.base);
                result = left == null ? result : product(result, factor.base);
            }
        }
        return settle(result, to);
    }

    int slope(int one, int to) {
        BigInteger[] f = held(one);
        if (f == null || !isSlot(to)) {
            return UNKNOWN;
        }
        if (f.length == 1) {
            return STATE;
        }
        BigInteger[] result = new BigInteger[f.length - 1];
        for (int k = 1; k < f.length; k++) {
            result[k - 1] = f[k].multiply(BigInteger.valueOf(k));
        }
        return settle(result, to);
    }

    int move(int one, int by, int to) {
        BigInteger[] f = held(one);
        if (f == null || !isSlot(to)) {
            return UNKNOWN;
        }
        if (by < -9 || by > 9) {
            return OUTSIDE;
        }
        BigInteger[] result = new BigInteger[f.length];
        Arrays.fill(result, BigInteger.ZERO);
        BigInteger[] power = poly(1);
        for (BigInteger c : f) {
            for (int k = 0; k < power.length; k++) {
                result[k] = result[k].add(c.multiply(power[k]));
            }
            power = product(power, poly(by, 1));
        }
        return settle(result, to);
    }

    int be(int slot, int kind) {
        if (!isSlot(slot)) {
            return UNKNOWN;
        }
        if (kind < 0 || kind > 4) {
            return OUTSIDE;
        }
        int before = slots.get(slot).kind;
        slots.get(slot).kind = kind;
        return before;
    }

    int parts(int slot, int prime, int what) {
        BigInteger[] f = held(slot);
        if (f == null) {
            return UNKNOWN;
        }
        if (!PRIMES.contains(prime) || what < 0 || what > 1) {
            return OUTSIDE;
        }
        List<Integer> found = partDegrees(f, prime);
        if (found == null) {
            return NONE;
        }
        StringBuilder digits = new StringBuilder();
        found.forEach(digits::append);
        return what == 0 ? found.size() : Integer.parseInt(digits.toString());
    }

    int degrees(int slot) {
        BigInteger[] f = held(slot);
        if (f == null) {
            return UNKNOWN;
        }
        int result = 0;
        for (int d = 0; d < f.length; d++) {
            boolean possible = true;
            for (int prime : PRIMES) {
                List<Integer> found = partDegrees(f, prime);
                possible &= found == null || sums(found, 0).contains(d);
            }
            result += possible ? 1 << d : 0;
        }
        return result;
    }

    int see(int slot, int what, boolean could) {
        if (!isSlot(slot)) {
            return UNKNOWN;
        }
        if (what < 0 || what > 3) {
            return OUTSIDE;
        }
        if (notes.size() == 6) {
            return FULL;
        }
        notes.add(new Note(slot, what, could));
        return notes.size();
    }

    int forget() {
        int before = notes.size();
        notes.clear();
        return before;
    }

    int drawn(int times, int seed, int what) {
        if (times < 1 || times > 4 || seed < 0 || what < 0 || what > 2) {
            return OUTSIDE;
        }
        BigInteger x = BigInteger.valueOf(seed);
        int irreducible = 0;
        int sum = 0;
        for (int i = 0; i < times; i++) {
            long[] f = {0, 0, 0, 0, 1};
            for (int k = 3; k >= 0; k--) {
                x = x.multiply(BigInteger.valueOf(1103515245)).add(BigInteger.valueOf(12345)).mod(BigInteger.TWO.pow(31));
                f[k] = x.longValueExact() / 65536 % 9 - 4;
            }
            int found = factors(poly(f)).stream().mapToInt(Factor::times).sum();
            irreducible += found == 1 ? 1 : 0;
            sum += found;
        }
        return what == 0 ? irreducible : what == 1 ? sum : x.intValueExact();
    }

    private static List<Slot> copied(List<Slot> slots) {
        List<Slot> result = new ArrayList<>();
        for (Slot slot : slots) {
            result.add(new Slot(slot.kind, slot.held));
        }
        return result;
    }

    int image() {
        if (slots.isEmpty()) {
            return STATE;
        }
        savedSlots = copied(slots);
        savedNotes = new ArrayList<>(notes);
        return count(1);
    }

    int restore() {
        if (savedSlots == null) {
            return STATE;
        }
        slots = copied(savedSlots);
        notes = new ArrayList<>(savedNotes);
        return count(1);
    }

    int count(int what) {
        List<BigInteger[]> all = slots.stream().map(slot -> slot.held).filter(f -> f != null).toList();
        return switch (what) {
            case 0 -> slots.size();
            case 1 -> all.size();
            case 2 -> (int) all.stream().filter(f -> content(f).equals(BigInteger.ONE) && factors(f).size() == 1
                    && factors(f).get(0).times == 1).count();
            case 3 -> all.stream().mapToInt(f -> f.length - 1).sum();
            case 4 -> all.stream().mapToInt(f -> written(f).length()).sum();
            case 5 -> notes.size();
            case 6 -> page.length();
            case 7 -> desks;
            default -> OUTSIDE;
        };
    }

    long digest() {
        List<Long> all = new ArrayList<>();
        for (int slot = 0; slot < slots.size(); slot++) {
            for (int what = 0; what < 8; what++) {
                all.add((long) slot(slot, what));
            }
            BigInteger[] f = held(slot);
            if (f != null) {
                for (int power = 0; power < 6; power++) {
                    all.add((long) number(slot, power));
                }
                for (int factor = 0; factor < factors(f).size(); factor++) {
                    for (int what = 0; what < 8; what++) {
                        all.add((long) factor(slot, factor, what));
                    }
                }
                all.add((long) degrees(slot));
                all.add(value(slot, 3));
                written(f).chars().forEach(code -> all.add((long) code));
            }
        }
        page.chars().forEach(code -> all.add((long) code));
        for (int what = 0; what < 8; what++) {
            all.add((long) count(what));
        }
        long h = 1409;
        for (long v : all) {
            h = 31 * h + v;
        }
        return h;
    }
}
