/**
 * Polynomials with integer coefficients, kept in slots of different kinds, and their factorization.
 *
 * <p>All rows are made in constructors and used again: no call makes an object.
 */
public final class PolyDesk {
    public static final int NONE = -1, UNKNOWN = -101, OUTSIDE = -102, STATE = -103, FULL = -104;

    private static final int PLAIN = 0, PURE = 1, FREE = 2, TURNED = 3, MIRROR = 4;
    private static final int KINDS = 5;
    private static final char[] KIND_LETTERS = {'s', 'p', 'f', 't', 'm'};

    private static final int MOST_SLOTS = 4;
    private static final int MOST_CHARACTERS = 40;
    private static final int MOST_OBSERVATIONS = 6;
    private static final int HIGHEST_POWER = 5;
    private static final int MOST_COEFFICIENT = 999;
    private static final int[] PRIMES = {2, 3, 5, 7, 11, 13};

    private static final int FIRST_CODE = 32, LAST_CODE = 126;
    private static final int MOST_X = 9;
    private static final int PROPERTIES = 8;
    private static final int NUMBER_SHIFT = 1000;
    private static final int FACTOR_SHIFT = 100000;
    private static final int MOST_DRAWN = 4;
    private static final int DRAWN_DEGREE = 4;
    private static final long DRAWN_FACTOR = 1103515245L, DRAWN_TERM = 12345L, DRAWN_MASK = (1L << 31) - 1;
    private static final int DIGEST_X = 3;
    private static final long DIGEST_START = 1409, DIGEST_FACTOR = 31;

    private final Line page = new Line();
    private final Line written = new Line();
    private final Reader reader = new Reader();
    private final Poly work = new Poly();
    private final Poly shaped = new Poly();
    private final Factoring factoring = new Factoring();
    private final Factors workFactors = new Factors();
    private final Parts parts = new Parts();

    private final Slot[] slots = new Slot[MOST_SLOTS];
    private final Notes notes = new Notes();
    private int slotCount;
    private int desksRead;

    private final Slot[] savedSlots = new Slot[MOST_SLOTS];
    private final Notes savedNotes = new Notes();
    // The image belongs to the desk that was read as this one; 0 while there is no image.
    private int savedDesk;

    public PolyDesk() {
        for (int i = 0; i < MOST_SLOTS; i++) {
            slots[i] = new Slot();
            savedSlots[i] = new Slot();
        }
    }

    // ---- texts

    public int letter(int code) {
        if (code < FIRST_CODE || code > LAST_CODE) {
            return OUTSIDE;
        }
        return page.append(code) ? page.length : FULL;
    }

    public int blank() {
        int before = page.length;
        page.length = 0;
        return before;
    }

    public int fault() {
        return reader.read(page);
    }

    public int desk() {
        int size = page.length;
        if (size < 1 || size > MOST_SLOTS) {
            return STATE;
        }
        for (int i = 0; i < size; i++) {
            if (kindOfLetter(page.codeAt(i)) == NONE) {
                return STATE;
            }
        }
        for (int i = 0; i < size; i++) {
            slots[i].kind = kindOfLetter(page.codeAt(i));
            slots[i].filled = false;
        }
        slotCount = size;
        desksRead++;
        notes.size = 0;
        page.length = 0;
        return size;
    }

    private static int kindOfLetter(int code) {
        for (int kind = 0; kind < KIND_LETTERS.length; kind++) {
            if (KIND_LETTERS[kind] == code) {
                return kind;
            }
        }
        return NONE;
    }

    public int put(int slot) {
        Slot target = anySlot(slot);
        if (target == null) {
            return UNKNOWN;
        }
        if (reader.read(page) != page.length || !reader.isComplete()) {
            return STATE;
        }
        work.copyFrom(reader.result);
        int degree = settle(target);
        if (degree != FULL) {
            page.length = 0;
        }
        return degree;
    }

    // ---- slots

    private Slot anySlot(int slot) {
        return slot >= 0 && slot < slotCount && slot < slots.length ? slots[slot] : null;
    }

    private Slot filledSlot(int slot) {
        Slot found = anySlot(slot);
        return found != null && found.filled ? found : null;
    }

    public int slot(int slot, int what) {
        Slot found = anySlot(slot);
        if (found == null) {
            return UNKNOWN;
        }
        switch (what) {
            case 0:
                return found.kind;
            case 1:
                return found.filled ? found.held.degree() : NONE;
            case 2:
                return found.filled ? NUMBER_SHIFT + (int) found.held.content() : 0;
            case 3:
                return textLength(found);
            case 4:
                return found.filled ? found.factors.size : 0;
            case 5:
                return found.filled ? found.factors.multiplicitySum() : 0;
            case 6:
                return notes.candidates(slot);
            case 7:
                return Notes.nextQuestion(notes.candidates(slot));
            default:
                return OUTSIDE;
        }
    }

    private int textLength(Slot slot) {
        if (!slot.filled) {
            return 0;
        }
        slot.held.spell(written);
        return written.length;
    }

    public int as(int slot, int kind) {
        Slot found = anySlot(slot);
        if (found == null) {
            return UNKNOWN;
        }
        if (!isKind(kind)) {
            return OUTSIDE;
        }
        boolean fits = kind == PLAIN || kind == found.kind || kind == PURE && found.kind == FREE;
        return fits ? slot : NONE;
    }

    private static boolean isKind(int kind) {
        return kind >= 0 && kind < KINDS;
    }

    public int number(int slot, int power) {
        Slot found = filledSlot(slot);
        if (found == null) {
            return UNKNOWN;
        }
        if (power < 0 || power > HIGHEST_POWER) {
            return OUTSIDE;
        }
        return NUMBER_SHIFT + (int) found.held.at(power);
    }

    public int text(int slot, int place) {
        Slot found = filledSlot(slot);
        if (found == null) {
            return UNKNOWN;
        }
        found.held.spell(written);
        int code = written.codeAt(place);
        return code == NONE ? UNKNOWN : code;
    }

    public int factor(int slot, int factor, int what) {
        Slot found = filledSlot(slot);
        Poly base = found == null ? null : found.factors.baseAt(factor);
        if (base == null) {
            return UNKNOWN;
        }
        if (what < 0 || what >= PROPERTIES) {
            return OUTSIDE;
        }
        if (what == 0) {
            return base.degree();
        }
        if (what == 1) {
            return found.factors.multiplicityAt(factor);
        }
        return FACTOR_SHIFT + (int) base.at(what - 2);
    }

    public long value(int slot, int x) {
        Slot found = filledSlot(slot);
        if (found == null) {
            return UNKNOWN;
        }
        if (x < -MOST_X || x > MOST_X) {
            return OUTSIDE;
        }
        return found.held.valueAt(x);
    }

    // ---- computations whose results are put into a slot

    /** Puts the polynomial in work, which is not 0, into a slot, unless there is no room. */
    private int settle(Slot target) {
        if (!work.isInRange()) {
            return FULL;
        }
        switch (target.kind) {
            case PURE:
                shaped.copyFrom(work);
                shaped.divideBy(work.content());
                break;
            case FREE:
                factoring.run(work, workFactors);
                workFactors.multiplyEachOnce(shaped);
                break;
            case TURNED:
                shaped.reverseFrom(work);
                break;
            case MIRROR:
                shaped.mirrorFrom(work);
                break;
            default:
                shaped.copyFrom(work);
                break;
        }
        if (!shaped.isInRange()) {
            return FULL;
        }
        target.held.copyFrom(shaped);
        target.filled = true;
        factoring.run(target.held, target.factors);
        return target.held.degree();
    }

    public int add(int one, int other, int to) {
        Slot first = filledSlot(one);
        Slot second = filledSlot(other);
        Slot target = anySlot(to);
        if (first == null || second == null || target == null) {
            return UNKNOWN;
        }
        work.sumFrom(first.held, second.held);
        return work.degree() == NONE ? STATE : settle(target);
    }

    public int times(int one, int other, int to) {
        Slot first = filledSlot(one);
        Slot second = filledSlot(other);
        Slot target = anySlot(to);
        if (first == null || second == null || target == null) {
            return UNKNOWN;
        }
        if (first.held.degree() + second.held.degree() > HIGHEST_POWER) {
            return FULL;
        }
        work.copyFrom(first.held);
        work.multiplyBy(second.held);
        return settle(target);
    }

    public int common(int one, int other, int to) {
        Slot first = filledSlot(one);
        Slot second = filledSlot(other);
        Slot target = anySlot(to);
        if (first == null || second == null || target == null) {
            return UNKNOWN;
        }
        work.setConstant(Poly.commonDivisor(first.held.content(), second.held.content()));
        first.factors.multiplyShared(second.factors, work);
        return settle(target);
    }

    public int slope(int one, int to) {
        Slot first = filledSlot(one);
        Slot target = anySlot(to);
        if (first == null || target == null) {
            return UNKNOWN;
        }
        if (first.held.degree() < 1) {
            return STATE;
        }
        work.derivativeFrom(first.held);
        return settle(target);
    }

    public int move(int one, int by, int to) {
        Slot first = filledSlot(one);
        Slot target = anySlot(to);
        if (first == null || target == null) {
            return UNKNOWN;
        }
        if (by < -MOST_X || by > MOST_X) {
            return OUTSIDE;
        }
        work.shiftFrom(first.held, by);
        return settle(target);
    }

    public int be(int slot, int kind) {
        Slot found = anySlot(slot);
        if (found == null) {
            return UNKNOWN;
        }
        if (!isKind(kind)) {
            return OUTSIDE;
        }
        int before = found.kind;
        found.kind = kind;
        return before;
    }

    // ---- by primes

    public int parts(int slot, int prime, int what) {
        Slot found = filledSlot(slot);
        if (found == null) {
            return UNKNOWN;
        }
        if (!isSmallPrime(prime) || what < 0 || what > 1) {
            return OUTSIDE;
        }
        if (!parts.split(found.held, prime)) {
            return NONE;
        }
        return what == 0 ? parts.countAll() : parts.degreeDigits();
    }

    private static boolean isSmallPrime(int number) {
        for (int i = 0; i < PRIMES.length; i++) {
            if (PRIMES[i] == number) {
                return true;
            }
        }
        return false;
    }

    public int degrees(int slot) {
        Slot found = filledSlot(slot);
        if (found == null) {
            return UNKNOWN;
        }
        int possible = (1 << (found.held.degree() + 1)) - 1;
        for (int i = 0; i < PRIMES.length; i++) {
            if (parts.split(found.held, PRIMES[i])) {
                possible &= parts.degreeSums();
            }
        }
        return possible;
    }

    // ---- observations

    public int see(int slot, int what, boolean could) {
        if (anySlot(slot) == null) {
            return UNKNOWN;
        }
        if (what < 0 || what >= Notes.HAPPENS_WITH.length) {
            return OUTSIDE;
        }
        return notes.append(slot, what, could) ? notes.size : FULL;
    }

    public int forget() {
        int before = notes.size;
        notes.size = 0;
        return before;
    }

    public int drawn(int times, int seed, int what) {
        if (times < 1 || times > MOST_DRAWN || seed < 0 || what < 0 || what > 2) {
            return OUTSIDE;
        }
        long x = seed;
        int irreducible = 0;
        int multiplicities = 0;
        for (int i = 0; i < times; i++) {
            work.setConstant(0);
            work.set(DRAWN_DEGREE, 1);
            for (int power = DRAWN_DEGREE - 1; power >= 0; power--) {
                x = (DRAWN_FACTOR * x + DRAWN_TERM) & DRAWN_MASK;
                work.set(power, x / 65536 % 9 - 4);
            }
            factoring.run(work, workFactors);
            int sum = workFactors.multiplicitySum();
            multiplicities += sum;
            irreducible += sum == 1 ? 1 : 0;
        }
        if (what == 2) {
            return (int) x;
        }
        return what == 1 ? multiplicities : irreducible;
    }

    // ---- images and figures

    public int image() {
        if (slotCount == 0) {
            return STATE;
        }
        for (int i = 0; i < MOST_SLOTS; i++) {
            savedSlots[i].copyFrom(slots[i]);
        }
        savedNotes.copyFrom(notes);
        savedDesk = desksRead;
        return filledSlots();
    }

    public int restore() {
        if (savedDesk == 0 || savedDesk != desksRead) {
            return STATE;
        }
        for (int i = 0; i < MOST_SLOTS; i++) {
            slots[i].copyFrom(savedSlots[i]);
        }
        notes.copyFrom(savedNotes);
        return filledSlots();
    }

    private int filledSlots() {
        int count = 0;
        for (int i = 0; i < slotCount; i++) {
            count += filledSlot(i) == null ? 0 : 1;
        }
        return count;
    }

    public int count(int what) {
        switch (what) {
            case 0:
                return slotCount;
            case 1:
                return filledSlots();
            case 2:
                return irreducibleSlots();
            case 3:
                return degreeSum();
            case 4:
                return textLengthSum();
            case 5:
                return notes.size;
            case 6:
                return page.length;
            case 7:
                return desksRead;
            default:
                return OUTSIDE;
        }
    }

    private int irreducibleSlots() {
        int count = 0;
        for (int i = 0; i < slotCount; i++) {
            Slot found = filledSlot(i);
            if (found != null && found.held.content() == 1 && found.factors.multiplicitySum() == 1) {
                count++;
            }
        }
        return count;
    }

    private int degreeSum() {
        int sum = 0;
        for (int i = 0; i < slotCount; i++) {
            Slot found = filledSlot(i);
            sum += found == null ? 0 : found.held.degree();
        }
        return sum;
    }

    private int textLengthSum() {
        int sum = 0;
        for (int i = 0; i < slotCount; i++) {
            Slot found = filledSlot(i);
            sum += found == null ? 0 : textLength(found);
        }
        return sum;
    }

    public long digest() {
        long hash = DIGEST_START;
        for (int i = 0; i < slotCount; i++) {
            for (int what = 0; what < PROPERTIES; what++) {
                hash = DIGEST_FACTOR * hash + slot(i, what);
            }
            Slot found = filledSlot(i);
            if (found != null) {
                hash = digestHeld(hash, i, found);
            }
        }
        hash = digestLine(hash, page);
        for (int what = 0; what < PROPERTIES; what++) {
            hash = DIGEST_FACTOR * hash + count(what);
        }
        return hash;
    }

    private long digestHeld(long start, int slot, Slot found) {
        long hash = start;
        for (int power = 0; power <= HIGHEST_POWER; power++) {
            hash = DIGEST_FACTOR * hash + number(slot, power);
        }
        for (int i = 0; i < found.factors.size; i++) {
            for (int what = 0; what < PROPERTIES; what++) {
                hash = DIGEST_FACTOR * hash + factor(slot, i, what);
            }
        }
        hash = DIGEST_FACTOR * hash + degrees(slot);
        hash = DIGEST_FACTOR * hash + value(slot, DIGEST_X);
        found.held.spell(written);
        return digestLine(hash, written);
    }

    private static long digestLine(long start, Line line) {
        long hash = start;
        for (int i = 0; i < line.length; i++) {
            hash = DIGEST_FACTOR * hash + line.codeAt(i);
        }
        return hash;
    }

    /** Characters in a row: the page, or the text of a polynomial. */
    private static final class Line {
        private final int[] codes = new int[MOST_CHARACTERS];
        private int length;

        boolean append(int code) {
            if (length < 0 || length >= codes.length) {
                return false;
            }
            codes[length] = code;
            length++;
            return true;
        }

        int codeAt(int place) {
            return place >= 0 && place < length && place < codes.length ? codes[place] : NONE;
        }
    }

    /** Reads the text of a polynomial, a character at a time. */
    private static final class Reader {
        private static final int START = 0, SIGN = 1, NUMBER = 2, LETTER = 3, CARET = 4, POWER = 5;

        private final Poly result = new Poly();
        private int state;
        private int sign;
        private int amount;
        private int power;
        // The powers of the terms fall: the power of the present term is lower than this.
        private int limit;

        /** Reads up to the first character that is not allowed, and returns its position. */
        int read(Line line) {
            result.setConstant(0);
            state = START;
            sign = 1;
            limit = HIGHEST_POWER + 1;
            for (int i = 0; i < line.length; i++) {
                if (!accept(line.codeAt(i))) {
                    return i;
                }
            }
            return line.length;
        }

        /** Ends the last term, if the text may end here. */
        boolean isComplete() {
            if (state != NUMBER && state != LETTER && state != POWER) {
                return false;
            }
            endTerm();
            return true;
        }

        private void endTerm() {
            result.set(power, sign * amount);
            limit = power;
        }

        private boolean accept(int code) {
            if (code == '+' || code == '-') {
                return acceptSign(code);
            }
            if (code == 'x') {
                return acceptLetter();
            }
            if (code == '^') {
                return acceptCaret();
            }
            return code >= '0' && code <= '9' && acceptDigit(code - '0');
        }

        private boolean acceptSign(int code) {
            // Behind a number without x nothing follows: no power is lower than 0.
            boolean behindTerm = state == LETTER || state == POWER;
            if (!behindTerm && (state != START || code == '+')) {
                return false;
            }
            if (behindTerm) {
                endTerm();
            }
            sign = code == '-' ? -1 : 1;
            state = SIGN;
            return true;
        }

        private boolean acceptLetter() {
            if (limit <= 1) {
                return false;
            }
            if (state == START || state == SIGN) {
                amount = 1;
            } else if (state != NUMBER || amount == 1) {
                return false;
            }
            power = 1;
            state = LETTER;
            return true;
        }

        private boolean acceptCaret() {
            if (state != LETTER || limit <= 2) {
                return false;
            }
            state = CARET;
            return true;
        }

        private boolean acceptDigit(int digit) {
            if (state == CARET && digit >= 2 && digit < limit) {
                power = digit;
                state = POWER;
                return true;
            }
            if ((state == START || state == SIGN) && digit > 0) {
                amount = digit;
                power = 0;
                state = NUMBER;
                return true;
            }
            if (state == NUMBER && 10 * amount + digit <= MOST_COEFFICIENT) {
                amount = 10 * amount + digit;
                return true;
            }
            return false;
        }
    }

    /** A polynomial up to power 5, or 0. */
    private static final class Poly {
        private static final int SIZE = HIGHEST_POWER + 1;
        // Euclid's algorithm takes fewer steps for any two longs.
        private static final int MOST_EUCLID_STEPS = 100;

        private final long[] coefficients = new long[SIZE];

        long at(int power) {
            return power >= 0 && power < SIZE ? coefficients[power] : 0;
        }

        void set(int power, long coefficient) {
            if (power >= 0 && power < SIZE) {
                coefficients[power] = coefficient;
            }
        }

        void setConstant(long constant) {
            coefficients[0] = constant;
            for (int k = 1; k < SIZE; k++) {
                coefficients[k] = 0;
            }
        }

        void setQuadratic(long square, long linear, long constant) {
            setConstant(constant);
            coefficients[1] = linear;
            coefficients[2] = square;
        }

        void copyFrom(Poly other) {
            for (int k = 0; k < SIZE; k++) {
                coefficients[k] = other.coefficients[k];
            }
        }

        /** The degree; NONE for 0. */
        int degree() {
            for (int k = SIZE - 1; k >= 0; k--) {
                if (coefficients[k] != 0) {
                    return k;
                }
            }
            return NONE;
        }

        boolean isInRange() {
            for (int k = 0; k < SIZE; k++) {
                if (coefficients[k] < -MOST_COEFFICIENT || coefficients[k] > MOST_COEFFICIENT) {
                    return false;
                }
            }
            return true;
        }

        static long commonDivisor(long one, long other) {
            long a = Math.abs(one);
            long b = Math.abs(other);
            for (int step = 0; step < MOST_EUCLID_STEPS && b != 0; step++) {
                long rest = a % b;
                a = b;
                b = rest;
            }
            return a;
        }

        /** The content, with the sign of the leading coefficient. */
        long content() {
            long divisor = 0;
            for (int k = 0; k < SIZE; k++) {
                divisor = commonDivisor(divisor, coefficients[k]);
            }
            return at(degree()) < 0 ? -divisor : divisor;
        }

        void divideBy(long divisor) {
            for (int k = 0; k < SIZE && divisor != 0; k++) {
                coefficients[k] /= divisor;
            }
        }

        long valueAt(int x) {
            long sum = 0;
            for (int k = SIZE - 1; k >= 0; k--) {
                sum = sum * x + coefficients[k];
            }
            return sum;
        }

        void sumFrom(Poly one, Poly other) {
            for (int k = 0; k < SIZE; k++) {
                coefficients[k] = one.coefficients[k] + other.coefficients[k];
            }
        }

        void derivativeFrom(Poly other) {
            for (int k = 0; k < SIZE; k++) {
                coefficients[k] = (k + 1) * other.at(k + 1);
            }
        }

        void reverseFrom(Poly other) {
            int top = other.degree();
            for (int k = 0; k < SIZE; k++) {
                coefficients[k] = other.at(top - k);
            }
        }

        void mirrorFrom(Poly other) {
            for (int k = 0; k < SIZE; k++) {
                coefficients[k] = k % 2 == 0 ? other.coefficients[k] : -other.coefficients[k];
            }
        }

        /** Replaces x by x + by, in Horner's scheme. */
        void shiftFrom(Poly other, int by) {
            setConstant(0);
            for (int step = SIZE - 1; step >= 0; step--) {
                for (int k = SIZE - 1; k >= 0; k--) {
                    coefficients[k] = by * coefficients[k] + at(k - 1);
                }
                coefficients[0] += other.coefficients[step];
            }
        }

        /** Multiplies by another polynomial, which must be another object. */
        void multiplyBy(Poly other) {
            // From the top, because a coefficient of the product needs no higher ones of this.
            for (int k = SIZE - 1; k >= 0; k--) {
                coefficients[k] = productAt(other, k);
            }
        }

        /** The coefficient of a power in the product with another polynomial. */
        private long productAt(Poly other, int power) {
            long sum = 0;
            for (int k = 0; k < SIZE; k++) {
                int rest = power - k;
                if (rest >= 0 && rest < SIZE) {
                    sum += coefficients[k] * other.coefficients[rest];
                }
            }
            return sum;
        }

        /** Becomes whole / part, if that has integer coefficients and leaves nothing. */
        boolean becomeQuotient(Poly whole, Poly part) {
            setConstant(0);
            int partTop = part.degree();
            long lead = part.at(partTop);
            if (lead == 0) {
                return false;
            }
            for (int k = whole.degree() - partTop; k >= 0; k--) {
                long left = whole.at(k + partTop) - productAt(part, k + partTop);
                if (left % lead != 0) {
                    return false;
                }
                set(k, left / lead);
            }
            for (int k = 0; k < partTop; k++) {
                if (whole.at(k) != productAt(part, k)) {
                    return false;
                }
            }
            return true;
        }

        boolean isSame(Poly other) {
            return order(other) == 0;
        }

        /** Compares the coefficients from power 5 downward; as leads are positive, lower degrees come first. */
        int order(Poly other) {
            for (int k = SIZE - 1; k >= 0; k--) {
                if (coefficients[k] != other.coefficients[k]) {
                    return coefficients[k] < other.coefficients[k] ? -1 : 1;
                }
            }
            return 0;
        }

        void spell(Line line) {
            line.length = 0;
            for (int power = SIZE - 1; power >= 0; power--) {
                if (coefficients[power] != 0) {
                    spellTerm(line, coefficients[power], power);
                }
            }
        }

        private static void spellTerm(Line line, long coefficient, int power) {
            if (coefficient < 0) {
                line.append('-');
            } else if (line.length > 0) {
                line.append('+');
            }
            long amount = Math.abs(coefficient);
            boolean isLeftOut = amount == 1 && power >= 1;
            for (int unit = 100; unit > 0 && !isLeftOut; unit /= 10) {
                if (amount >= unit) {
                    line.append('0' + (int) (amount / unit % 10));
                }
            }
            if (power >= 1) {
                line.append('x');
            }
            if (power >= 2) {
                line.append('^');
                line.append('0' + power);
            }
        }
    }

    /** The irreducible factors of a polynomial in their order, with their multiplicities. */
    private static final class Factors {
        private final Poly[] bases = new Poly[HIGHEST_POWER];
        private final int[] multiplicities = new int[HIGHEST_POWER];
        private int size;

        Factors() {
            for (int i = 0; i < bases.length; i++) {
                bases[i] = new Poly();
            }
        }

        void copyFrom(Factors other) {
            size = other.size;
            for (int i = 0; i < HIGHEST_POWER; i++) {
                bases[i].copyFrom(other.bases[i]);
                multiplicities[i] = other.multiplicities[i];
            }
        }

        void insert(Poly base, int multiplicity) {
            if (size < 0 || size >= HIGHEST_POWER) {
                return;
            }
            int place = size;
            while (place > 0 && base.order(bases[place - 1]) < 0) {
                bases[place].copyFrom(bases[place - 1]);
                multiplicities[place] = multiplicities[place - 1];
                place--;
            }
            bases[place].copyFrom(base);
            multiplicities[place] = multiplicity;
            size++;
        }

        /** A factor; null if there is none of this number. */
        Poly baseAt(int factor) {
            return factor >= 0 && factor < size && factor < bases.length ? bases[factor] : null;
        }

        int multiplicityAt(int factor) {
            return factor >= 0 && factor < size && factor < multiplicities.length ? multiplicities[factor] : 0;
        }

        int multiplicitySum() {
            int sum = 0;
            for (int i = 0; i < size; i++) {
                sum += multiplicityAt(i);
            }
            return sum;
        }

        private int multiplicityOf(Poly base) {
            for (int i = 0; i < size && i < HIGHEST_POWER; i++) {
                if (bases[i].isSame(base)) {
                    return multiplicities[i];
                }
            }
            return 0;
        }

        void multiplyEachOnce(Poly product) {
            product.setConstant(1);
            for (int i = 0; i < size && i < HIGHEST_POWER; i++) {
                product.multiplyBy(bases[i]);
            }
        }

        /** Multiplies the product by all factors that the others have too, as often as both have them. */
        void multiplyShared(Factors others, Poly product) {
            for (int i = 0; i < size && i < HIGHEST_POWER; i++) {
                int shared = Math.min(multiplicities[i], others.multiplicityOf(bases[i]));
                for (int time = 0; time < shared; time++) {
                    product.multiplyBy(bases[i]);
                }
            }
        }
    }

    /**
     * Finds the irreducible factors of a polynomial with coefficients up to 999.
     *
     * <p>The leading coefficient of a factor divides that of the whole, and so do the lowest ones.
     * As the degree is at most 5, what has no factor of degree 1 or 2 is irreducible.
     */
    private static final class Factoring {
        // 840 has the most divisors of all numbers up to 999.
        private static final int MOST_DIVISORS = 32;
        // Bit k is set if k is a square modulo 64: most numbers that are not squares end here.
        private static final long SQUARES_MODULO_64 = 0x0202021202030213L;
        // A middle coefficient is at most twice the product of the absolute values above 1 of all
        // roots and the leading coefficient, which is at most 999 times the square root of 6.
        private static final long MOST_MIDDLE = 4895;

        private final Poly rest = new Poly();
        private final Poly trial = new Poly();
        private final Poly quotient = new Poly();
        private final int[] leads = new int[MOST_DIVISORS];
        private final int[] ends = new int[MOST_DIVISORS];
        private int leadCount;
        private int endCount;

        void run(Poly whole, Factors found) {
            found.size = 0;
            rest.copyFrom(whole);
            rest.divideBy(whole.content());
            // x goes first, because all numbers divide a lowest coefficient 0.
            trial.setQuadratic(0, 1, 0);
            takeOut(found);
            takeLinear(found);
            if (rest.degree() >= 4 && findQuadratic()) {
                takeOut(found);
            }
            if (rest.degree() >= 1) {
                found.insert(rest, 1);
            }
        }

        /** Divides the rest by the trial as often as it can be. */
        private void takeOut(Factors found) {
            int multiplicity = 0;
            while (multiplicity < HIGHEST_POWER && rest.degree() >= trial.degree()
                    && quotient.becomeQuotient(rest, trial)) {
                rest.copyFrom(quotient);
                multiplicity++;
            }
            if (multiplicity > 0) {
                found.insert(trial, multiplicity);
            }
        }

        private void takeLinear(Factors found) {
            listDivisors();
            for (int i = 0; i < leadCount && i < MOST_DIVISORS; i++) {
                for (int j = 0; j < endCount && j < MOST_DIVISORS; j++) {
                    for (int sign = -1; sign <= 1; sign += 2) {
                        if (isRoot(leads[i], sign * ends[j])) {
                            trial.setQuadratic(0, leads[i], sign * ends[j]);
                            takeOut(found);
                        }
                    }
                }
            }
        }

        /** Says whether lead * x + end is 0 where the rest is 0. */
        private boolean isRoot(long lead, long end) {
            long sum = 0;
            long scale = 1;
            for (int k = rest.degree(); k >= 0; k--) {
                sum = rest.at(k) * scale - sum * end;
                scale *= lead;
            }
            return sum == 0;
        }

        private void listDivisors() {
            leadCount = divisors(rest.at(rest.degree()), leads);
            endCount = divisors(rest.at(0), ends);
        }

        /** Lists the positive divisors of a number, and returns how many there are. */
        private static int divisors(long number, int[] list) {
            long amount = Math.abs(number);
            int count = 0;
            for (int d = 1; d <= MOST_COEFFICIENT && d * d <= amount; d++) {
                if (amount % d == 0 && count + 1 < list.length) {
                    list[count] = d;
                    count++;
                    if (d * d != amount) {
                        list[count] = (int) (amount / d);
                        count++;
                    }
                }
            }
            return count;
        }

        /** Looks for a factor of degree 2, which is the trial then; the rest has none of degree 1. */
        private boolean findQuadratic() {
            listDivisors();
            for (int i = 0; i < leadCount && i < MOST_DIVISORS; i++) {
                for (int j = 0; j < endCount && j < MOST_DIVISORS; j++) {
                    if (findMiddle(leads[i], ends[j]) || findMiddle(leads[i], -ends[j])) {
                        return true;
                    }
                }
            }
            return false;
        }

        /**
         * Looks for a factor lead * x^2 + b * x + end. The outer coefficients of the cofactor are
         * known then, and comparing the others leaves an equation square * b^2 + linear * b + constant = 0.
         */
        private boolean findMiddle(long lead, long end) {
            int top = rest.degree();
            if (lead == 0 || end == 0) {
                return false;
            }
            long coLead = rest.at(top) / lead;
            long coEnd = rest.at(0) / end;
            long square;
            long linear;
            long constant;
            if (top == 4) {
                square = -coLead;
                linear = rest.at(3);
                constant = lead * (lead * coEnd + end * coLead - rest.at(2));
            } else {
                square = -end * coLead;
                linear = end * rest.at(4) - lead * lead * coEnd;
                constant = lead * (lead * rest.at(1) + end * end * coLead - end * rest.at(3));
            }
            long root = squareRoot(linear * linear - 4 * square * constant);
            for (int sign = -1; sign <= 1 && root != NONE && square != 0; sign += 2) {
                // A quotient that was rounded does no harm: what is tried must divide the rest.
                long middle = (sign * root - linear) / (2 * square);
                trial.setQuadratic(lead, middle, end);
                if (Math.abs(middle) <= MOST_MIDDLE && quotient.becomeQuotient(rest, trial)) {
                    return true;
                }
            }
            return false;
        }

        /** The square root; NONE if the number is not the square of an integer. */
        private static long squareRoot(long number) {
            if (number < 0 || (SQUARES_MODULO_64 >>> (number & 63) & 1) == 0) {
                return NONE;
            }
            long root = 0;
            for (long bit = 1L << 30; bit > 0; bit >>= 1) {
                long next = root + bit;
                if (next * next <= number) {
                    root = next;
                }
            }
            return root * root == number ? root : NONE;
        }
    }

    /** The irreducible factors of a polynomial modulo a prime, of which only the degrees are kept. */
    private static final class Parts {
        // Two numbers more than coefficients, so that both numbers before the first one are 0.
        private static final int SIZE = HIGHEST_POWER + 3;

        private final long[] rest = new long[SIZE];
        private final long[] trial = new long[SIZE];
        private final int[] counts = new int[HIGHEST_POWER + 1];
        private int top;
        private int modulus;

        /** Says whether the polynomial is good for the prime; if so, the counts are those of its parts. */
        boolean split(Poly poly, int prime) {
            top = poly.degree();
            modulus = prime;
            if (prime < 2 || top < 1 || poly.at(top) % prime == 0) {
                return false;
            }
            for (int k = 0; k < SIZE; k++) {
                rest[k] = Math.floorMod(poly.at(k), (long) prime);
            }
            for (int k = 0; k <= HIGHEST_POWER; k++) {
                counts[k] = 0;
            }
            if (!takeLinear() || !takeQuadratic()) {
                return false;
            }
            // What is left is one part: it has none of degree 1, and from degree 4 on none of degree 2.
            if (top >= 1 && top <= HIGHEST_POWER) {
                counts[top]++;
            }
            return true;
        }

        /** Takes out all parts x + c; false if there is one twice. */
        private boolean takeLinear() {
            for (int c = 0; c < modulus; c++) {
                if (divide(1, c, 0)) {
                    counts[1]++;
                    if (divide(1, c, 0)) {
                        return false;
                    }
                }
            }
            return true;
        }

        /** Takes out a part x^2 + b * x + c of a rest without parts of degree 1; false if there is one twice. */
        private boolean takeQuadratic() {
            for (int b = 0; b < modulus && top >= 4; b++) {
                for (int c = 0; c < modulus && top >= 4; c++) {
                    if (divide(2, b, c)) {
                        counts[2]++;
                        if (divide(2, b, c)) {
                            return false;
                        }
                    }
                }
            }
            return true;
        }

        /** Divides the rest by x + near, or by x^2 + near * x + far, if nothing is left then. */
        private boolean divide(int degree, int near, int far) {
            if (top < degree || top + 2 >= SIZE || modulus < 2) {
                return false;
            }
            trial[top + 1] = 0;
            trial[top + 2] = 0;
            for (int k = top; k >= 0; k--) {
                trial[k] = Math.floorMod(rest[k] - near * trial[k + 1] - far * trial[k + 2], (long) modulus);
            }
            for (int k = 0; k < degree; k++) {
                if (trial[k] != 0) {
                    return false;
                }
            }
            for (int k = 0; k + degree <= top; k++) {
                rest[k] = trial[k + degree];
            }
            top -= degree;
            return true;
        }

        int countAll() {
            int sum = 0;
            for (int degree = 1; degree <= HIGHEST_POWER; degree++) {
                sum += counts[degree];
            }
            return sum;
        }

        /** The degrees of all parts as decimal digits, in ascending order. */
        int degreeDigits() {
            int digits = 0;
            for (int degree = 1; degree <= HIGHEST_POWER; degree++) {
                for (int i = 0; i < counts[degree]; i++) {
                    digits = 10 * digits + degree;
                }
            }
            return digits;
        }

        /** The set of the sums of the degrees of some parts. */
        int degreeSums() {
            int sums = 1;
            for (int degree = 1; degree <= HIGHEST_POWER; degree++) {
                for (int i = 0; i < counts[degree]; i++) {
                    sums |= sums << degree;
                }
            }
            return sums;
        }
    }

    /** A slot: its kind, and what it holds. */
    private static final class Slot {
        private final Poly held = new Poly();
        private final Factors factors = new Factors();
        private int kind;
        private boolean filled;

        void copyFrom(Slot other) {
            held.copyFrom(other.held);
            factors.copyFrom(other.factors);
            kind = other.kind;
            filled = other.filled;
        }
    }

    /** The observations, and what they say of the kinds of slots. */
    private static final class Notes {
        // For each observation the set of the kinds with which it can happen; the digits stand for
        // mirror, turned, free, pure and plain.
        private static final int[] HAPPENS_WITH = {0b00110, 0b00100, 0b11110, 0b01110};

        private final int[] slotNumbers = new int[MOST_OBSERVATIONS];
        // The set of the kinds with which the observation is true.
        private final int[] trueWith = new int[MOST_OBSERVATIONS];
        private int size;

        boolean append(int slot, int what, boolean could) {
            if (size < 0 || size >= MOST_OBSERVATIONS || what < 0 || what >= HAPPENS_WITH.length) {
                return false;
            }
            slotNumbers[size] = slot;
            trueWith[size] = could ? HAPPENS_WITH[what] : ~HAPPENS_WITH[what];
            size++;
            return true;
        }

        void copyFrom(Notes other) {
            size = other.size;
            for (int i = 0; i < MOST_OBSERVATIONS; i++) {
                slotNumbers[i] = other.slotNumbers[i];
                trueWith[i] = other.trueWith[i];
            }
        }

        int candidates(int slot) {
            int kinds = (1 << KINDS) - 1;
            for (int i = 0; i < size && i < MOST_OBSERVATIONS; i++) {
                if (slotNumbers[i] == slot) {
                    kinds &= trueWith[i];
                }
            }
            return kinds;
        }

        /** The observation that leaves the fewest candidates in its worse case; NONE if there are none now. */
        static int nextQuestion(int candidates) {
            int best = NONE;
            int fewest = KINDS + 1;
            for (int what = 0; what < HAPPENS_WITH.length && candidates != 0; what++) {
                int can = Integer.bitCount(candidates & HAPPENS_WITH[what]);
                int cannot = Integer.bitCount(candidates & ~HAPPENS_WITH[what]);
                int left = Math.max(can, cannot);
                if (left < fewest) {
                    fewest = left;
                    best = what;
                }
            }
            return best;
        }
    }
}
