/** What the tests share: counting right and wrong answers, and short ways to fill and read a PolyDesk. */
abstract class TestBase {
    static final int NONE = -1, UNKNOWN = -101, OUTSIDE = -102, STATE = -103, FULL = -104;

    static int passed = 0;
    static int failed = 0;
    static String section = "";

    static void due(long got, long want, String what) {
        if (got == want) {
            passed++;
        } else {
            failed++;
            System.out.println(section + ": " + what + " answered " + got + ", due is " + want);
        }
    }

    static void due(String got, String want, String what) {
        due(got.equals(want) ? 1 : 0, 1, what + " (" + got + " for " + want + ")");
    }

    static void end(String name) {
        System.out.println(name + ": " + passed + " passed, " + failed + " failed");
        System.exit(failed == 0 ? 0 : 1);
    }

    static void type(PolyDesk x, String text) {
        for (char c : text.toCharArray()) {
            x.letter(c);
        }
    }

    static PolyDesk deskOf(String kinds) {
        PolyDesk x = new PolyDesk();
        type(x, kinds);
        x.desk();
        return x;
    }

    static int putText(PolyDesk x, int slot, String text) {
        x.blank();
        type(x, text);
        return x.put(slot);
    }

    /** A desk of these kinds, the first slots of which have got these polynomials. */
    static PolyDesk filled(String kinds, String... texts) {
        PolyDesk x = deskOf(kinds);
        for (int i = 0; i < texts.length; i++) {
            putText(x, i, texts[i]);
        }
        return x;
    }

    /** A plain desk of four slots, the first ones of which hold these polynomials. */
    static PolyDesk plain(String... texts) {
        return filled("ssss", texts);
    }

    static String written(PolyDesk x, int slot) {
        StringBuilder result = new StringBuilder();
        for (int i = 0; x.text(slot, i) >= 0; i++) {
            result.append((char) x.text(slot, i));
        }
        return result.toString();
    }

    /** The factors as "2*1,-1" for a multiplicity 2 and x - 1, joined by blanks. */
    static String factors(PolyDesk x, int slot) {
        StringBuilder result = new StringBuilder();
        for (int i = 0; i < x.slot(slot, 4); i++) {
            result.append(i > 0 ? " " : "").append(x.factor(slot, i, 1)).append('*');
            int degree = x.factor(slot, i, 0);
            for (int k = degree; k >= 0; k--) {
                result.append(x.factor(slot, i, 2 + k) - 100000).append(k > 0 ? "," : "");
            }
            for (int k = degree + 1; k <= 5; k++) {
                due(x.factor(slot, i, 2 + k), 100000, "coefficient above the degree");
            }
        }
        return result.toString();
    }

    static String factorsOf(String text) {
        return factors(plain(text), 0);
    }

    static int faultOf(String text) {
        PolyDesk x = new PolyDesk();
        type(x, text);
        return x.fault();
    }

    /** The digest by the document's words, from the answers of the other methods. */
    static long digestByWords(PolyDesk x, String page) {
        long h = 1409;
        for (int s = 0; s < x.count(0); s++) {
            for (int what = 0; what < 8; what++) {
                h = 31 * h + x.slot(s, what);
            }
            h = x.slot(s, 1) == NONE ? h : heldByWords(x, s, h);
        }
        for (char c : page.toCharArray()) {
            h = 31 * h + c;
        }
        for (int what = 0; what < 8; what++) {
            h = 31 * h + x.count(what);
        }
        return h;
    }

    private static long heldByWords(PolyDesk x, int slot, long start) {
        long h = start;
        for (int power = 0; power < 6; power++) {
            h = 31 * h + x.number(slot, power);
        }
        for (int i = 0; i < x.slot(slot, 4); i++) {
            for (int what = 0; what < 8; what++) {
                h = 31 * h + x.factor(slot, i, what);
            }
        }
        h = 31 * h + x.degrees(slot);
        h = 31 * h + x.value(slot, 3);
        for (char c : written(x, slot).toCharArray()) {
            h = 31 * h + c;
        }
        return h;
    }
}
