import java.io.IOException;
import java.math.BigInteger;
import java.util.ArrayList;
import java.util.List;
import java.util.TreeSet;

/** For each sentence of the document that names a boundary case a test of its own, under the sentence's words. */
public final class BoundaryTests extends TestBase {
    private static final int LEAST = Integer.MIN_VALUE, MOST = Integer.MAX_VALUE;
    private static final int[] NO_SLOT_OF_FOUR = {-1, 4, 5, 1000, LEAST, MOST};
    private static final String[] POWERS = {"", "x", "x^2", "x^3", "x^4", "x^5"};
    private static final String LONGEST = "-999x^5-999x^4-999x^3-999x^2-999x-999";

    // (x - 1)^2 * h, of which (x - 1) * h has a greatest coefficient 999, or 1000.
    private static final String FREE_999 = "298x^5+701x^4-928x^3-728x^2-54x+711";
    private static final String FREE_1000 = "289x^5+711x^4-981x^3-697x^2+48x+630";
    // The same with -x for x: the coefficients are -999 and -1000.
    private static final String FREE_MINUS_999 = "-298x^5+701x^4+928x^3-728x^2+54x+711";
    private static final String FREE_MINUS_1000 = "-289x^5+711x^4+981x^3-697x^2-48x+630";

    private static int promise;
    private static DocWords document;

    /** A call whose answer is asked for later. */
    private interface Call {
        long answer();
    }

    public static void main(String[] args) throws IOException {
        document = new DocWords();
        description();
        promise1to5();
        promise6to12();
        promise13to18();
        promise19to23();
        promise24to27();
        section = "the document's words";
        if (document.isThere()) {
            due(document.wrongQuotes().toString(), "[]", "quotes that do not stand in the document");
            due(document.missingRefusals().toString(), "[]", "sentences without a test");
            due(document.missingSections().toString(), "[]", "promises without a test");
        } else {
            System.out.println("BoundaryTests: the document is not there, its words are not compared");
        }
        end("BoundaryTests");
    }

    private static void promise(int number) {
        promise = number;
    }

    private static void says(String words) {
        section = promise + ", " + words;
        document.quote(promise, words);
    }

    /** A call that answers an error code, and changes nothing. */
    private static void refused(PolyDesk x, Call call, int code, String what) {
        long before = x.digest();
        due(call.answer(), code, what);
        due(x.digest(), before, "the digest behind " + what);
    }

    private static void put(PolyDesk x, int slot, String text, int degree, String held) {
        due(putText(x, slot, text), degree, "put " + text);
        due(written(x, slot), held, "what is held of " + text);
    }

    private static String repeated(String text, int times) {
        return text.repeat(times);
    }

    // ---- description

    private static void description() {
        promise(0);
        useOfAnObject();
        coefficients();
        contents();
        irreducibles();
        factorOrder();
        commonDivisors();
        goodPolynomials();
        possibleDegrees();
        slotKinds();
        subtypes();
        texts();
        observations();
        observedKinds();
        errors();
        refusedCalls();
        sameSlots();
    }

    private static void useOfAnObject() {
        says("An object is used for at most 512 calls after it has been made");
        PolyDesk x = new PolyDesk();
        for (int i = 0; i < 255; i++) {
            x.letter('m');
            x.desk();
        }
        due(x.count(7), 255, "the 511th call");
        due(x.slot(0, 0), 4, "the 512th call");
        x = deskOf("s");
        for (int i = 0; i < 254; i++) {
            x.letter('7');
            x.put(0);
        }
        due(x.number(0, 0), 1007, "the 511th call");
        due(x.letter('x'), 1, "the 512th call");
    }

    private static void coefficients() {
        says("A polynomial has an integer coefficient, -999 to 999, for each power of x from 0 to 5");
        for (int power = 0; power <= 5; power++) {
            for (int c : new int[] {-999, -998, -2, 2, 998, 999}) {
                PolyDesk x = deskOf("s");
                due(putText(x, 0, c + POWERS[power]), power, "put " + c + POWERS[power]);
                for (int k = 0; k <= 5; k++) {
                    due(x.number(0, k), k == power ? 1000 + c : 1000, "power " + k + " of " + c + POWERS[power]);
                }
            }
            PolyDesk x = plain("7");
            due(putText(x, 0, "1000" + POWERS[power]), STATE, "1000");
            due(putText(x, 0, "-1000" + POWERS[power]), STATE, "-1000");
            due(written(x, 0), "7", "what was held");
        }
        PolyDesk x = plain("7");
        due(putText(x, 0, "x^6"), STATE, "power 6");

        says("not all are 0");
        for (String zero : List.of("", "0", "-0", "0x", "0x^5", "+0")) {
            due(putText(x, 0, zero), STATE, "put " + zero);
        }
        putText(x, 1, "-7");
        due(x.add(0, 1, 2), STATE, "a sum 0");
        due(x.slope(0, 2), STATE, "a derivative 0");

        says("Its degree is the greatest power with a coefficient other than 0, which is its leading coefficient.");
        String[] texts = {"-999", "-x+999", "x^2+999x+999", "x^3-x^2", "-x^4+999", "x^5"};
        for (int degree = 0; degree <= 5; degree++) {
            due(plain(texts[degree]).slot(0, 1), degree, texts[degree]);
        }
    }

    private static void contents() {
        says("The content of a polynomial is the greatest common divisor of its coefficients, with the sign of its "
                + "leading coefficient.");
        String[] texts = {"1", "-1", "999", "-999", "x^5", "-x^5+999", "4x^2-6", "-4x^2+6", "998x-996", "-999x^5-999",
                "999x^3+666x^2-333", "-6x^5+10x^3-15"};
        int[] due = {1, -1, 999, -999, 1, -1, 2, -2, 2, -999, 333, -1};
        for (int i = 0; i < due.length; i++) {
            due(plain(texts[i]).slot(0, 2), 1000 + due[i], texts[i]);
        }
    }

    private static void irreducibles() {
        says("A polynomial with the content 1 is primitive.");
        for (String text : List.of("2x", "-x", "-x+1", "2x^2+2", "999x^5-999", "-x^4-1")) {
            due(plain(text).count(2), 0, text);
        }
        for (String text : List.of("x", "x-1", "2x-1", "x^2+1", "x^4+1")) {
            due(plain(text).count(2), 1, text);
        }
        says("A primitive polynomial of degree 1 or more is irreducible if it is not the product of two primitive "
                + "polynomials of degree 1 or more.");
        for (String text : List.of("1", "-1", "7", "999")) {
            due(plain(text).count(2), 0, "degree 0: " + text);
        }
        for (String text : List.of("999x+998", "x^2-2", "x^3-2", "x^4-10x^2+1", "x^5-x-1", "x^5-2", "x^5+x^2+1")) {
            due(plain(text).count(2), 1, text);
        }
        for (String text : List.of("x^2", "x^2-1", "x^2-2x+1", "x^3-1", "x^4+4", "x^4+x^2+1", "x^5+x+1", "x^5-1")) {
            due(plain(text).count(2), 0, text);
        }
    }

    private static void factorOrder() {
        says("Each polynomial is the product of its content and of irreducible polynomials, its factors, each as often "
                + "as its multiplicity says.");
        due(factorsOf("1"), "", "no factor");
        due(factorsOf("-999"), "", "no factor");
        due(factorsOf("-999x"), "1*1,0", "one factor");
        due(factorsOf("x^5"), "5*1,0", "a multiplicity 5");
        due(factorsOf("-32x^5"), "5*1,0", "a multiplicity 5 with a content");
        due(factorsOf("x^5-5x^3+4x"), "1*1,-2 1*1,-1 1*1,0 1*1,1 1*1,2", "five factors");
        due(factorsOf("x^5-5x^4+10x^3-10x^2+5x-1"), "5*1,-1", "a multiplicity 5");
        due(factorsOf("x^4-4x^3+6x^2-4x+1"), "4*1,-1", "a multiplicity 4");
        due(factorsOf("x^5+2x^3+x"), "1*1,0 2*1,0,1", "a factor of degree 2 twice");
        due(factorsOf("4x^4-4x^3+5x^2-2x+1"), "2*2,-1,1", "a factor with lead 2 twice");

        says("The factors, each once, are numbered from 0: those with lower degrees come first");
        due(factorsOf("2x^3-x^2+2x-1"), "1*2,-1 1*1,0,1", "a lower degree, though a greater lead");
        due(factorsOf("x^4-5x"), "1*1,0 1*1,0,0,-5", "degrees 1 and 3");
        due(factorsOf("3x^5+3x^3-x^2-1"), "1*1,0,1 1*3,0,0,-1", "degrees 2 and 3");
        due(factorsOf("x^5-x"), "1*1,-1 1*1,0 1*1,1 1*1,0,1", "degrees 1 and 2");
        says("of the same degree those whose coefficients, from the greatest power downward, are lexicographically smaller");
        due(factorsOf("2x^2+9x-5"), "1*1,5 1*2,-1", "the leads decide first");
        due(factorsOf("x^2-998x-999"), "1*1,-999 1*1,1", "numbers, not signs");
        due(factorsOf("x^4+4"), "1*1,-2,2 1*1,2,2", "then the middle ones");
        due(factorsOf("x^4+x^2-6"), "1*1,0,-2 1*1,0,3", "then the last ones");
        due(factorsOf("840x^2+58x+1"), "1*28,1 1*30,1", "leads that multiply to the number with the most divisors");
        due(factorsOf("x^2+58x+840"), "1*1,28 1*1,30", "ends that multiply to it");
        due(factorsOf("x^2-840x+839"), "1*1,-839 1*1,-1", "the greatest divisor of an end");
        due(factorsOf("997x^2+998x+1"), "1*1,1 1*997,1", "the greatest divisor of a lead");
        due(factorsOf("840x^4+58x^2+1"), "1*28,0,1 1*30,0,1", "leads of degree 2");
        due(factorsOf("840x^5+58x^3+x"), "1*1,0 1*28,0,1 1*30,0,1", "and x");
        due(factorsOf("x^4+58x^2+840"), "1*1,0,28 1*1,0,30", "ends of degree 2");

        says("(Coefficients of factors may be beyond 999.)");
        due(factorsOf(FREE_999), "2*1,-1 1*298,1297,1368,711", "beyond 999");
        due(factorsOf(FREE_MINUS_1000), "2*1,1 1*289,-1289,1308,-630", "beyond -999");
        due(factorsOf("999x^5+998x^4+997x^3-997x^2-998x-999"), "1*1,-1 1*999,1997,2994,1997,999", "2994");
    }

    private static void commonDivisors() {
        says("The common divisor of two polynomials is the product of all factors that both have, each as often as the "
                + "smaller one of its multiplicities says");
        PolyDesk x = plain("x^5", "x^2", "x^3-x^2", "x-1");
        due(x.common(0, 1, 3), 2, "5 times and twice");
        due(x.common(1, 0, 3), 2, "the other way round");
        due(x.common(0, 2, 3), 2, "only the factor that both have");
        x = plain("x^3-x", "x^2-x", "x", "x-1");
        due(x.common(0, 2, 3), 1, "fewer factors than before");
        due(written(x, 3), "x", "fewer factors than before");
        putText(x, 1, "x-1");
        due(x.common(0, 1, 3), 1, "fewer factors than before");
        due(written(x, 3), "x-1", "fewer factors than before");
        x = plain("x", "x-1");
        due(x.common(0, 1, 3), 0, "no factor");
        due(written(x, 3), "1", "no factor");

        says("and of the greatest common divisor of both contents, which is positive");
        String[] pairs = {"6", "4", "2", "-6", "4", "2", "-6", "-4", "2", "999", "-999", "999", "-1", "-1", "1",
                "-6x", "-9x^2", "3x", "-x", "-x", "x", "-999x^5", "-999x^5", "999x^5"};
        for (int i = 0; i + 2 < pairs.length; i += 3) {
            x = plain(pairs[i], pairs[i + 1]);
            x.common(0, 1, 2);
            due(written(x, 2), pairs[i + 2], "common divisor of " + pairs[i] + " and " + pairs[i + 1]);
        }
    }

    private static void goodPolynomials() {
        says("Let p be one of the primes 2, 3, 5, 7, 11 and 13.");
        due(partsOf("x+7"), "1 1 1 1 1 1", "x+7");
        says("A polynomial of degree 1 or more is good for p if");
        due(partsOf("1"), "-1 -1 -1 -1 -1 -1", "1");
        due(partsOf("-999"), "-1 -1 -1 -1 -1 -1", "-999");
        due(partsOf("x"), "1 1 1 1 1 1", "x");
        says("its leading coefficient is not divisible by p");
        due(partsOf("210x+1"), "-1 -1 -1 -1 1 1", "210");
        due(partsOf("-858x+1"), "-1 -1 1 1 -1 -1", "-858");
        due(partsOf("13x+1"), "1 1 1 1 1 -1", "13");
        due(partsOf("858x^2+x+1"), "-1 -1 11 2 -1 -1", "858, degree 2");
        due(partsOf("-7x^3+3x+1"), "3 -1 12 -1 3 12", "-7");
        says("and, modulo p, it is not divisible by the square of a polynomial of degree 1 or more");
        due(partsOf("x^2"), "-1 -1 -1 -1 -1 -1", "a square itself");
        due(partsOf("x^2+1"), "-1 2 11 2 2 11", "(x + 1)^2 modulo 2");
        due(partsOf("x^3+1"), "12 -1 12 111 12 111", "(x + 1)^3 modulo 3");
        due(partsOf("x^5-2"), "-1 14 -1 14 5 14", "(x - 2)^5 modulo 5");
        due(partsOf("x^4+x^2+1"), "-1 -1 22 1111 22 1111", "(x^2 + x + 1)^2 modulo 2");
        due(partsOf("900x^2+1"), "-1 -1 -1 2 2 11", "900");
        says("The parts of a polynomial that is good for p are its irreducible factors modulo p.");
        due(partsOf("x^5-5x^3+4x"), "-1 -1 11111 11111 11111 11111", "five parts");
        due(partsOf("x^5-x-1"), "23 5 5 23 5 5", "one part of degree 5, or two");
        due(partsOf("x^5+x^2+1"), "5 14 23 23 14 122", "all sorts");
        due(partsOf("x^4+x+1"), "4 13 13 4 13 4", "degree 4");
        due(partsOf("x^5+x+1"), "23 -1 122 -1 122 113", "degrees 1, 1 and 3");
        due(partsOf("x^5-x"), "-1 1112 11111 1112 1112 11111", "degrees 1, 1, 1 and 2");
        due(partsOf("x^4+x^3+x^2+x+1"), "4 4 -1 4 1111 4", "four parts");
    }

    /** For each prime the degrees of the parts, the number of which must fit. */
    private static String partsOf(String text) {
        PolyDesk x = plain(text);
        List<String> result = new ArrayList<>();
        for (int prime : new int[] {2, 3, 5, 7, 11, 13}) {
            int digits = x.parts(0, prime, 1);
            due(x.parts(0, prime, 0), digits < 0 ? NONE : ("" + digits).length(), "number of parts of " + text);
            result.add("" + digits);
        }
        return String.join(" ", result);
    }

    private static void possibleDegrees() {
        says("The possible degrees of a polynomial are all numbers d from 0 to its degree such that, for each p for "
                + "which it is good, d is the sum of the degrees of some (also none or all) of its parts.");
        String[] goodForNone = {"1", "x^2", "x^3", "x^4", "x^5", "-999", "x^3-x^2"};
        int[] due = {1, 7, 15, 31, 63, 1, 15};
        for (int i = 0; i < due.length; i++) {
            due(plain(goodForNone[i]).degrees(0), due[i], "good for none: " + goodForNone[i]);
        }
        due(plain("x").degrees(0), 3, "none or all of one part");
        due(plain("x^5-x-1").degrees(0), 33, "none or all");
        due(plain("x^5-2").degrees(0), 33, "none or all");
        due(plain("x^4+x^3+x^2+x+1").degrees(0), 17, "none or all");
        due(plain("-7x^3+3x+1").degrees(0), 9, "none or all, with a content -1");
        due(plain("x^4-10x^2+1").degrees(0), 21, "2 is possible, though it is irreducible");
        due(plain("x^5-1").degrees(0), 51, "0, 1, 4 and 5");
        due(plain("x^5+x+1").degrees(0), 45, "0, 2, 3 and 5");
        due(plain("x^5-5x^3+4x").degrees(0), 63, "all");
        due(plain("858x^2+x+1").degrees(0), 5, "0 and 2");
        says("Sets of kinds or degrees are ints in which bit k stands for number k.");
        due(plain("x^2+1").degrees(0), 0b101, "0 and 2");
        PolyDesk x = deskOf("s");
        x.see(0, 1, true);
        due(x.slot(0, 6), 1 << 2, "free");
    }

    private static void slotKinds() {
        says("A desk has 1 to 4 slots, numbered from 0; at first there is no desk.");
        due(new PolyDesk().slot(0, 0), UNKNOWN, "no desk");
        for (int size = 0; size <= 5; size++) {
            PolyDesk x = new PolyDesk();
            type(x, repeated("m", size));
            due(x.desk(), size >= 1 && size <= 4 ? size : STATE, "slots " + size);
            for (int slot = -1; slot <= 5; slot++) {
                boolean isThere = slot >= 0 && slot < size && size <= 4;
                due(x.slot(slot, 0), isThere ? 4 : UNKNOWN, "slot " + slot + " of " + size);
            }
        }
        says("- 0 plain: the polynomial itself.");
        put(deskOf("s"), 0, LONGEST, 5, LONGEST);
        put(deskOf("s"), 0, "-1", 0, "-1");
        says("- 1 pure: the polynomial divided by its content.");
        put(deskOf("p"), 0, LONGEST, 5, "x^5+x^4+x^3+x^2+x+1");
        put(deskOf("p"), 0, "-999", 0, "1");
        put(deskOf("p"), 0, "1", 0, "1");
        put(deskOf("p"), 0, "-x^5+999", 5, "x^5-999");
        put(deskOf("p"), 0, "-999x^5+998", 5, "999x^5-998");
        says("- 2 free: the product of all its factors, each once (1 if there are none).");
        put(deskOf("f"), 0, "1", 0, "1");
        put(deskOf("f"), 0, "-999", 0, "1");
        put(deskOf("f"), 0, "-999x^5", 1, "x");
        put(deskOf("f"), 0, "x^4+2x^2+1", 2, "x^2+1");
        put(deskOf("f"), 0, "-2x^5+10x^3-8x", 5, "x^5-5x^3+4x");
        says("- 3 turned: the reversed polynomial: the coefficient of power k, for k from 0 to its degree d, is its "
                + "coefficient of power d - k.");
        put(deskOf("t"), 0, "-7", 0, "-7");
        put(deskOf("t"), 0, "x^5", 0, "1");
        put(deskOf("t"), 0, "-9x^5+8x^4-7x^3+6x^2-5x+4", 5, "4x^5-5x^4+6x^3-7x^2+8x-9");
        put(deskOf("t"), 0, "x^4-2x^3+3x^2", 2, "3x^2-2x+1");
        put(deskOf("t"), 0, "x^2+7", 2, "7x^2+1");
        put(deskOf("t"), 0, "x-999", 1, "-999x+1");
        says("- 4 mirror: the polynomial with the signs of the coefficients of all odd powers inverted.");
        put(deskOf("m"), 0, "-7", 0, "-7");
        put(deskOf("m"), 0, LONGEST, 5, "999x^5-999x^4+999x^3-999x^2+999x-999");
        put(deskOf("m"), 0, "x^4+x^2+1", 4, "x^4+x^2+1");
        put(deskOf("m"), 0, "x^5-x^3+x", 5, "-x^5+x^3-x");
    }

    private static void subtypes() {
        says("As types, all kinds are subtypes of plain, and free is also a subtype of pure.");
        String[] types = {"0", "01", "012", "03", "04"};
        for (int kind = 0; kind < 5; kind++) {
            PolyDesk x = deskOf("ss");
            x.be(1, kind);
            for (int type = 0; type < 5; type++) {
                due(x.as(1, type), types[kind].contains("" + type) ? 1 : NONE, "kind " + kind + " as " + type);
            }
        }
    }

    private static void texts() {
        says("There is a page with at most 40 characters.");
        PolyDesk x = new PolyDesk();
        type(x, repeated("~", 50));
        due(x.count(6), 40, "50 letters");

        says("The text of a polynomial consists of its terms, from the greatest power to the lowest one, those with "
                + "coefficient 0 being left out.");
        due(written(plain("x^5-2x^3+7"), 0), "x^5-2x^3+7", "with gaps");
        due(written(plain("x+1"), 0), "x+1", "a short first term");
        due(written(plain("2x-1"), 0), "2x-1", "a short first term");
        due(faultOf("x^3+x^4"), 6, "a power that rises");
        due(faultOf("x^3+x^3"), 6, "a power twice");
        due(faultOf("7+x"), 1, "a number first");
        due(faultOf("x^2+0"), 4, "a coefficient 0");
        says("Before each term stands its sign, \"+\" or \"-\", but no \"+\" before the first one.");
        due(faultOf("+x"), 0, "a first +");
        due(faultOf("-x"), 2, "a first -");
        due(faultOf("x^23"), 3, "no sign before the second term");
        due(faultOf("x+-1"), 2, "two signs");
        says("A term is the absolute value of its coefficient, without leading zeros");
        due(faultOf("0"), 0, "a zero");
        due(faultOf("-0"), 1, "a zero behind a sign");
        due(faultOf("007x"), 0, "leading zeros");
        due(faultOf("x+07"), 2, "a leading zero");
        due(faultOf("700x"), 4, "zeros behind");
        says("then \"x\", if the power is 1 or more; then \"^\" and the power, if it is 2 or more");
        due(faultOf("x^0"), 2, "power 0");
        due(faultOf("x^1"), 2, "power 1");
        due(faultOf("x^2"), 3, "power 2");
        due(faultOf("x^5"), 3, "power 5");
        due(faultOf("x^6"), 2, "power 6");
        due(faultOf("7^2"), 1, "a power of a number");
        says("The number 1 is left out where an \"x\" follows.");
        due(faultOf("1x"), 1, "1 before x");
        due(faultOf("x^2-1x"), 5, "1 before a later x");
        due(faultOf("11x"), 3, "11 before x");
        due(written(plain("-x^5+x^4-x+1"), 0), "-x^5+x^4-x+1", "1 and -1");
        due(written(plain("-1"), 0), "-1", "a number");
        says("There are no blanks.");
        due(faultOf(" x"), 0, "a first blank");
        due(faultOf("x +1"), 1, "a blank between");
        due(faultOf("x+1 "), 3, "a last blank");
        due(putText(deskOf("s"), 0, "x+1 "), STATE, "a last blank");
        says("The text of a desk is one to four letters, one for each slot: s plain, p pure, f free, t turned, m mirror.");
        for (int i = 0; i < 5; i++) {
            due(deskOf("spftm".substring(i, i + 1)).slot(0, 0), i, "letter " + i);
        }
    }

    private static void observations() {
        says("There are at most 6 observations.");
        PolyDesk x = deskOf("ss");
        for (int i = 1; i <= 8; i++) {
            due(x.see(i % 2, i % 4, true), i <= 6 ? i : FULL, "observation " + i);
        }
        due(x.count(5), 6, "observations");
        says("The candidates for a slot are the kinds (whatever its kind is) with which all observations of it are true.");
        for (String kinds : List.of("sp", "pf", "ft", "tm", "ms")) {
            x = deskOf(kinds);
            x.see(0, 2, false);
            due(x.slot(0, 6), 1, "only plain can be, though it is " + kinds);
            due(x.slot(1, 6), 31, "the other slot");
            x.see(0, 0, true);
            due(x.slot(0, 6), 0, "none");
            due(x.slot(1, 6), 31, "the other slot");
        }
        says("0 with the kinds pure and free; 1 with free; 2 with all kinds but plain; 3 with pure, free and turned");
        int[] sets = {0b00110, 0b00100, 0b11110, 0b01110};
        for (int what = 0; what < 4; what++) {
            x = deskOf("s");
            x.see(0, what, true);
            due(x.slot(0, 6), sets[what], "can " + what);
            x.forget();
            x.see(0, what, false);
            due(x.slot(0, 6), 31 - sets[what], "cannot " + what);
        }
    }

    /** What the kinds really do to polynomials is what is said of them. */
    private static void observedKinds() {
        says("An observation says of a slot that something can happen when a polynomial is put into it, or cannot");
        String[] texts = {"7", "-7", "x", "2x+4", "-3x+2", "x^2-2x+1", "x^2+2", "2x^3-5", "x^3+x", "x^5", "-x^4+3"};
        for (int kind = 0; kind < 5; kind++) {
            boolean[] happened = new boolean[4];
            for (String text : texts) {
                PolyDesk x = plain(text);
                x.be(1, kind);
                putText(x, 1, text);
                happened[0] |= Math.abs(x.slot(0, 2) - 1000) != Math.abs(x.slot(1, 2) - 1000);
                happened[1] |= x.slot(1, 1) < x.slot(0, 1) && x.number(0, 0) != 1000;
                happened[2] |= x.number(0, x.slot(0, 1)) != x.number(1, x.slot(1, 1));
                happened[3] |= x.number(0, 0) != x.number(1, 0);
            }
            PolyDesk x = deskOf("s");
            int same = 0;
            for (int what = 0; what < 4; what++) {
                x.see(0, what, happened[what]);
                same += happened[what] ? 1 << what : 0;
            }
            due(x.slot(0, 6), 1 << kind, "the candidates after what happened with kind " + kind + ": " + same);
        }
    }

    private static void errors() {
        says("NONE (-1) stands for \"there is none\".");
        due(PolyDesk.NONE, -1, "NONE");
        says("UNKNOWN (-101): there is no such slot, factor or place, or the slot is empty where a polynomial is needed");
        due(PolyDesk.UNKNOWN, -101, "UNKNOWN");
        PolyDesk x = plain("x");
        due(x.as(4, 0), -101, "no such slot");
        due(x.factor(0, 1, 0), -101, "no such factor");
        due(x.text(0, 1), -101, "no such place");
        due(x.number(1, 0), -101, "an empty slot");
        says("OUTSIDE (-102): another argument is out of its range");
        due(PolyDesk.OUTSIDE, -102, "OUTSIDE");
        due(x.value(0, 10), -102, "10");
        says("STATE (-103): the call is not possible, as told");
        due(PolyDesk.STATE, -103, "STATE");
        due(x.restore(), -103, "no image");
        says("FULL (-104): there is no room, or a coefficient would be beyond 999 or a degree above 5");
        due(PolyDesk.FULL, -104, "FULL");
        x = plain("500x^3");
        due(x.add(0, 0, 1), -104, "a coefficient 1000");
        due(x.times(0, 0, 1), -104, "a degree 6");
        says("If several errors apply to a call, the result is the code that the description of the method's result "
                + "names first");
        precedence();
        says("a method returns NONE only if no error applies");
        x = plain("5");
        due(x.as(1, 4), NONE, "no instance");
        due(x.as(1, 5), OUTSIDE, "a kind out of range");
        due(x.as(4, 4), UNKNOWN, "no slot");
        due(x.parts(0, 2, 0), NONE, "not good");
        due(x.parts(0, 4, 0), OUTSIDE, "not good, and no prime");
        due(x.parts(0, 2, 2), OUTSIDE, "not good, and what is out of range");
        due(x.parts(1, 2, 0), UNKNOWN, "not good, and empty");
        due(x.slot(1, 1), NONE, "no degree");
        due(x.slot(4, 1), UNKNOWN, "no slot");
    }

    private static void precedence() {
        PolyDesk x = plain("999x^5", "5", "-5");
        x.blank();
        type(x, repeated("q", 40));
        due(x.letter(127), OUTSIDE, "letter: OUTSIDE, FULL");
        for (int i = 0; i < 6; i++) {
            x.see(0, 0, true);
        }
        due(x.see(0, 4, true), OUTSIDE, "see: OUTSIDE, FULL");
        for (int slot : NO_SLOT_OF_FOUR) {
            due(x.put(slot), UNKNOWN, "put: UNKNOWN, STATE");
            due(x.slot(slot, 8), UNKNOWN, "slot: UNKNOWN, OUTSIDE");
            due(x.as(slot, 5), UNKNOWN, "as: UNKNOWN, OUTSIDE");
            due(x.number(slot, 6), UNKNOWN, "number: UNKNOWN, OUTSIDE");
            due(x.factor(slot, 0, 8), UNKNOWN, "factor: UNKNOWN, OUTSIDE");
            due(x.value(slot, 10), UNKNOWN, "value: UNKNOWN, OUTSIDE");
            due(x.add(1, 2, slot), UNKNOWN, "add: UNKNOWN, STATE");
            due(x.add(0, 0, slot), UNKNOWN, "add: UNKNOWN, FULL");
            due(x.times(0, 0, slot), UNKNOWN, "times: UNKNOWN, FULL");
            due(x.slope(1, slot), UNKNOWN, "slope: UNKNOWN, STATE");
            due(x.slope(0, slot), UNKNOWN, "slope: UNKNOWN, FULL");
            due(x.move(0, 10, slot), UNKNOWN, "move: UNKNOWN, OUTSIDE");
            due(x.move(0, 9, slot), UNKNOWN, "move: UNKNOWN, FULL");
            due(x.be(slot, 5), UNKNOWN, "be: UNKNOWN, OUTSIDE");
            due(x.parts(slot, 1, 2), UNKNOWN, "parts: UNKNOWN, OUTSIDE");
            due(x.see(slot, 4, true), UNKNOWN, "see: UNKNOWN, OUTSIDE, FULL");
        }
        due(x.number(3, 6), UNKNOWN, "number of an empty slot: UNKNOWN, OUTSIDE");
        due(x.factor(3, 0, 8), UNKNOWN, "factor of an empty slot: UNKNOWN, OUTSIDE");
        due(x.factor(1, 0, 8), UNKNOWN, "no such factor: UNKNOWN, OUTSIDE");
        due(x.value(3, 10), UNKNOWN, "value of an empty slot: UNKNOWN, OUTSIDE");
        due(x.move(3, 10, 0), UNKNOWN, "move from an empty slot: UNKNOWN, OUTSIDE");
        due(x.parts(3, 1, 2), UNKNOWN, "parts of an empty slot: UNKNOWN, OUTSIDE");
        due(x.move(0, 10, 1), OUTSIDE, "move: OUTSIDE, FULL");
    }

    // ---- refused calls

    /** A call with its arguments, to be answered by any object. */
    private interface Question {
        long ask(PolyDesk x);
    }

    private static void refusedCalls() {
        says("A call that returns an error code changes nothing.");
        List<Question> mayChange = new ArrayList<>();
        List<Question> onlyAsk = new ArrayList<>();
        collectCalls(mayChange, onlyAsk);
        int wrong = 0;
        int refused = 0;
        for (int state = 0; state < 5; state++) {
            long restored = afterRestore(stateOf(state));
            for (int i = 0; i < mayChange.size() + onlyAsk.size(); i++) {
                boolean onlyAsks = i >= mayChange.size();
                Question question = onlyAsks ? onlyAsk.get(i - mayChange.size()) : mayChange.get(i);
                PolyDesk x = stateOf(state);
                long before = x.digest();
                long answer = question.ask(x);
                boolean isRefused = answer <= UNKNOWN && answer >= FULL;
                if (isRefused || onlyAsks) {
                    refused += isRefused ? 1 : 0;
                    wrong += x.digest() == before && afterRestore(x) == restored ? 0 : 1;
                }
            }
        }
        due(wrong, 0, "calls that change something");
        due(refused > 10000 ? 1 : 0, 1, "enough refused calls: " + refused);
    }

    private static long afterRestore(PolyDesk x) {
        int answer = x.restore();
        return 31 * x.digest() + answer;
    }

    /** Desks of all sorts: none, an empty one, a full page, six observations, an image, great coefficients. */
    private static PolyDesk stateOf(int state) {
        if (state == 0) {
            return new PolyDesk();
        }
        PolyDesk x = state == 1 ? deskOf("ft") : filled("sftm", "999x^5-999", "x^3-x", "-500x^2+7", "5");
        if (state == 2) {
            x.image();
            x.be(0, 2);
            x.be(1, 0);
            putText(x, 2, "7");
            for (int i = 0; i < 6; i++) {
                x.see(i % 3, i % 4, i % 2 == 0);
            }
        }
        if (state >= 3) {
            x.slope(3, 3);
            x.see(1, 1, true);
            x.image();
            type(x, state == 3 ? repeated("x", 40) : FREE_1000);
        }
        return x;
    }

    private static void collectCalls(List<Question> mayChange, List<Question> onlyAsk) {
        int[] some = {LEAST, -1, 0, 1, 2, 3, 4, MOST};
        mayChange.add(x -> x.desk());
        mayChange.add(x -> x.restore());
        mayChange.add(x -> x.image());
        onlyAsk.add(x -> x.fault());
        onlyAsk.add(x -> x.digest());
        for (int a : some) {
            mayChange.add(x -> x.put(a));
            mayChange.add(x -> x.letter(a));
            mayChange.add(x -> x.letter(31 + 96 * (a & 1)));
            mayChange.add(x -> x.letter('x'));
            onlyAsk.add(x -> x.degrees(a));
            onlyAsk.add(x -> x.count(a));
            onlyAsk.add(x -> x.count(a + 4));
            for (int b : some) {
                mayChange.add(x -> x.be(a, b + 2));
                mayChange.add(x -> x.slope(a, b));
                onlyAsk.add(x -> x.slot(a, b));
                onlyAsk.add(x -> x.slot(a, b + 4));
                onlyAsk.add(x -> x.as(a, b + 1));
                onlyAsk.add(x -> x.number(a, b + 2));
                onlyAsk.add(x -> x.text(a, b));
                onlyAsk.add(x -> x.value(a, b + 7));
                onlyAsk.add(x -> x.value(a, b - 9));
                for (int c : some) {
                    mayChange.add(x -> x.add(a, b, c));
                    mayChange.add(x -> x.times(a, b, c));
                    mayChange.add(x -> x.common(a, b, c));
                    mayChange.add(x -> x.move(a, c * 5 - 5, b));
                    mayChange.add(x -> x.see(a, b, c > 1));
                    onlyAsk.add(x -> x.factor(a, b, c));
                    onlyAsk.add(x -> x.parts(a, b, c));
                    onlyAsk.add(x -> x.drawn(a, b, c));
                }
            }
        }
    }

    private static void sameSlots() {
        says("A slot where a result is put may be one of those from which it is computed.");
        String[] kinds = {"s", "p", "f", "t", "m"};
        String[] sums = {"2x^2+2x-4", "x^2+x-2", "x^2+x-2", "-4x^2+2x+2", "2x^2-2x-4"};
        String[] products = {"2x^4-10x^2+8", "x^4-5x^2+4", "x^4-5x^2+4", "8x^4-10x^2+2", "2x^4-10x^2+8"};
        String[] divisors = {"x^2-1", "x^2-1", "x^2-1", "-x^2+1", "x^2-1"};
        String[] slopes = {"4x", "x", "x", "4", "-4x"};
        String[] moved = {"2x^2+8x", "x^2+4x", "x^2+4x", "8x+2", "2x^2-8x"};
        for (int kind = 0; kind < 5; kind++) {
            for (int to = 0; to < 2; to++) {
                same(kinds[kind], to, 0, sums[kind]);
                same(kinds[kind], to, 1, products[kind]);
                same(kinds[kind], to, 2, divisors[kind]);
            }
            same(kinds[kind], 0, 3, slopes[kind]);
            same(kinds[kind], 0, 4, moved[kind]);
        }
        PolyDesk x = plain("3x-2");
        due(x.add(0, 0, 0) + 10 * x.times(0, 0, 0) + 100 * x.common(0, 0, 0), 221, "all three the same");
        due(written(x, 0), "36x^2-48x+16", "all three the same");
    }

    /** Computes with slots that hold two polynomials, and puts the result into one of these. */
    private static void same(String kind, int to, int operation, String due) {
        PolyDesk x = operation == 0 ? plain("2x^2-8", "2x+4")
                : operation == 1 ? plain("2x^2-8", "x^2-1")
                : operation == 2 ? plain("-2x^4+2", "3x^3-3x") : plain("2x^2-8");
        x.be(to, "spftm".indexOf(kind));
        long answer = operation == 0 ? x.add(0, 1, to)
                : operation == 1 ? x.times(0, 1, to)
                : operation == 2 ? x.common(0, 1, to)
                : operation == 3 ? x.slope(0, to) : x.move(0, 2, to);
        due(written(x, to), due, "operation " + operation + " into slot " + to + " of kind " + kind);
        due(answer, x.slot(to, 1), "the degree, operation " + operation);
    }

    // ---- promises 1 to 5

    private static void promise1to5() {
        promise(1);
        newObject();
        promise(2);
        letter();
        promise(3);
        blank();
        promise(4);
        fault();
        promise(5);
        desk();
    }

    private static void newObject() {
        says("Creates an object without a desk, with an empty page.");
        PolyDesk x = new PolyDesk();
        for (int what = 0; what < 8; what++) {
            due(x.count(what), 0, "count " + what);
        }
        for (int slot = -1; slot <= 4; slot++) {
            due(x.slot(slot, 0), UNKNOWN, "slot");
            due(x.put(slot), UNKNOWN, "put");
            due(x.as(slot, 0), UNKNOWN, "as");
            due(x.be(slot, 0), UNKNOWN, "be");
            due(x.see(slot, 0, true), UNKNOWN, "see");
            due(x.degrees(slot), UNKNOWN, "degrees");
            due(x.add(slot, slot, slot), UNKNOWN, "add");
        }
        due(x.image(), STATE, "image");
        due(x.restore(), STATE, "restore");
        due(x.desk(), STATE, "desk of an empty page");
        due(x.fault(), 0, "fault of an empty page");
        due(x.forget(), 0, "no observations");
        due(x.blank(), 0, "an empty page");
        due(x.digest(), digestByWords(x, ""), "digest");
        deskOf("ssss");
        due(x.count(0), 0, "another object's desk");
    }

    private static void letter() {
        says("- `code`: its code, 32 to 126");
        for (int start = 32; start <= 126; start += 40) {
            PolyDesk x = new PolyDesk();
            StringBuilder page = new StringBuilder();
            for (int code = start; code <= 126 && code < start + 40; code++) {
                due(x.letter(code), page.append((char) code).length(), "letter " + code);
            }
            due(x.digest(), digestByWords(x, page.toString()), "the letters from " + start + " on");
        }
        says("OUTSIDE if code is out of range");
        PolyDesk x = new PolyDesk();
        for (int code : new int[] {LEAST, -1, 0, 9, 10, 13, 30, 31, 127, 128, 160, 255, 256 + 'x', 65536 + 'x', MOST}) {
            refused(x, () -> x.letter(code), OUTSIDE, "letter " + code);
        }
        due(x.letter(32), 1, "the least code");
        due(x.letter(126), 2, "the greatest code");
        says("FULL if the page has 40 characters");
        for (int size = 3; size <= 40; size++) {
            due(x.letter('x'), size, "letter " + size);
        }
        refused(x, () -> x.letter('x'), FULL, "the 41st letter");
        refused(x, () -> x.letter('x'), FULL, "the 41st letter again");
        refused(x, () -> x.letter(31), OUTSIDE, "31 on a full page");
        x.blank();
        due(x.letter('x'), 1, "room again");
    }

    private static void blank() {
        says("Returns the number of characters that it had.");
        PolyDesk x = new PolyDesk();
        due(x.blank(), 0, "an empty page");
        for (int size : new int[] {1, 2, 39, 40}) {
            type(x, repeated("y", size));
            due(x.blank(), size, "characters");
            due(x.count(6), 0, "characters then");
            due(x.blank(), 0, "again");
        }
        type(x, repeated("y", 45));
        due(x.blank(), 40, "a page that was full");
        says("Empties the page.");
        type(x, "yyyyy");
        x.blank();
        type(x, "x");
        due(x.digest(), digestByWords(x, "x"), "only what was written since");
        due(x.fault(), 1, "only what was written since");
    }

    private static void fault() {
        says("that is, with which, behind the characters before it, no such text can begin");
        String digits = "0123456789";
        String first = "123456789";
        String[] starts = {"", "-", "1", "-1", "2", "10", "19", "99", "100", "-999", "x", "-x", "5x", "999x", "x^", "x^5",
                "x^2", "-12x^3", "x^5+", "x^3-", "x^5-x", "x^5-x^", "x^4+x^", "x^3+x^", "x^2+", "x^2+x", "x^2+3", "x^2+1",
                "x^2+12", "x+", "x-", "-2x-", "x+1", "x-2", "x+10", "x+100", "x+999", "x^5-x^4+x^3-x^2+x-", LONGEST};
        String[] allowed = {"-x" + first, "x" + first, digits, digits, digits + "x", digits + "x", digits + "x",
                digits + "x", "x", "x", "^+-", "^+-", "^+-", "^+-", "2345", "+-",
                "+-", "+-", "x" + first, "x" + first, "^+-", "234", "23", "2", "x" + first, "+-", digits + "x", digits,
                digits + "x", first, first, first, digits, digits, digits, "", "", first, ""};
        for (int i = 0; i < starts.length; i++) {
            int length = starts[i].length();
            due(faultOf(starts[i]), length, "the beginning " + starts[i]);
            for (char c = 32; c <= 126; c++) {
                int due = allowed[i].indexOf(c) >= 0 ? length + 1 : length;
                due(faultOf(starts[i] + c), due, starts[i] + " and " + c);
                due(due > length ? due : faultOf(starts[i] + c + "+1x"), due, "the first one of several, " + starts[i]);
            }
        }
        says("Returns the position of the first character of the page that is not allowed at its place in the text of "
                + "a polynomial");
        due(faultOf(repeated("q", 40)), 0, "position 0");
        due(faultOf(LONGEST + "+"), 37, "position 37");
        due(faultOf(LONGEST + "+q0"), 37, "position 37 of a full page");
        says("Returns the position, from 0; the number of characters if all are allowed.");
        due(faultOf(""), 0, "an empty page");
        due(faultOf("-"), 1, "a text that is not complete");
        due(faultOf(LONGEST), 37, "the longest text");
        PolyDesk x = deskOf("s");
        type(x, "x^2+q");
        long before = x.digest();
        due(x.fault(), 4, "the blank page is not asked");
        due(x.fault(), 4, "again");
        due(x.digest(), before, "nothing changes");
    }

    private static void desk() {
        says("Reads the page as a desk, which replaces the present one, and empties the page.");
        PolyDesk x = filled("sp", "x", "x");
        type(x, "tfm");
        due(x.desk(), 3, "a larger desk");
        due(x.slot(0, 0) + 10 * x.slot(1, 0) + 100 * x.slot(2, 0), 423, "its kinds");
        due(x.count(6), 0, "the page is empty");
        type(x, "p");
        due(x.desk(), 1, "a smaller desk");
        due(x.slot(1, 0), UNKNOWN, "a slot that was");
        says("All slots are empty then, and there are no observations.");
        x = filled("ssss", "x", "x", "x", "x");
        for (int i = 0; i < 6; i++) {
            x.see(i % 4, 0, false);
        }
        type(x, "ssss");
        due(x.desk(), 4, "the same desk");
        due(x.count(1) + x.count(2) + x.count(3) + x.count(4) + x.count(5), 0, "figures");
        for (int slot = 0; slot < 4; slot++) {
            due(x.slot(slot, 1), NONE, "empty");
            due(x.slot(slot, 6), 31, "all are candidates");
        }
        due(x.see(0, 0, true), 1, "room for observations");
        says("Returns the number of slots");
        allDesks("", 0);
        says("STATE if the page is not the text of a desk");
        for (String text : List.of("", "sssss", "spftm", repeated("s", 40), "S", "P", "a", " s", "s ", "s s", "sx", "xs",
                "ssst ", "sssq", "x^2", "-", "1", "spfq", "msss+", "r", "u", "o", "q", "n", "l", "e", "g")) {
            PolyDesk y = filled("pm", "x", "x");
            type(y, text);
            refused(y, () -> y.desk(), STATE, "the page " + text);
            due(y.count(6), text.length(), "the page stays");
        }
    }

    /** Reads all texts of desks that begin with this one. */
    private static void allDesks(String text, int depth) {
        if (depth > 0) {
            PolyDesk x = new PolyDesk();
            type(x, text);
            due(x.desk(), depth, "slots of " + text);
            for (int slot = 0; slot < depth; slot++) {
                due(x.slot(slot, 0), "spftm".indexOf(text.charAt(slot)), "kind " + slot + " of " + text);
            }
        }
        for (int kind = 0; kind < 5 && depth < 4; kind++) {
            allDesks(text + "spftm".charAt(kind), depth + 1);
        }
    }

    // ---- promises 6 to 12

    private static void promise6to12() {
        promise(6);
        put();
        putFull();
        promise(7);
        slotProperties();
        slotQuestions();
        promise(8);
        as();
        promise(9);
        number();
        promise(10);
        text();
        promise(11);
        factor();
        promise(12);
        value();
    }

    private static void put() {
        says("Reads the page as a polynomial, puts it into a slot, and empties the page.");
        PolyDesk x = filled("ssss", "x", "x^2");
        put(x, 0, "x^3", 3, "x^3");
        due(x.count(6), 0, "the page is empty");
        due(written(x, 1), "x^2", "the other slot stays");
        put(x, 3, "-7", 0, "-7");
        due(x.slot(2, 1), NONE, "a slot without any");
        says("Returns the degree of what the slot holds then");
        String[] texts = {"x^5-1", "x^5", "-9", "x^5-2x^4+x^3", "x"};
        int[][] due = {{5, 5, 5, 5, 5}, {5, 5, 1, 0, 5}, {0, 0, 0, 0, 0}, {5, 5, 2, 2, 5}, {1, 1, 1, 0, 1}};
        for (int i = 0; i < texts.length; i++) {
            for (int kind = 0; kind < 5; kind++) {
                x = deskOf("spftm".substring(kind, kind + 1));
                due(putText(x, 0, texts[i]), due[i][kind], texts[i] + " into kind " + kind);
                due(x.slot(0, 1), due[i][kind], texts[i] + " in kind " + kind);
            }
        }
        says("UNKNOWN if there is no such slot");
        for (int slot : NO_SLOT_OF_FOUR) {
            PolyDesk y = plain("x");
            type(y, "x^2");
            refused(y, () -> y.put(slot), UNKNOWN, "put " + slot);
            due(y.count(6), 3, "the page stays");
        }
        for (int size = 1; size <= 4; size++) {
            PolyDesk y = deskOf(repeated("s", size));
            due(putText(y, size - 1, "x"), 1, "the last slot of " + size);
            due(putText(y, size, "x"), UNKNOWN, "behind the last slot of " + size);
        }
        says("STATE if the page is not the complete text of a polynomial");
        String whole = "-12x^3+5x-9";
        for (int length = 0; length <= whole.length(); length++) {
            boolean isComplete = List.of(2, 3, 4, 6, 8, 9, 11).contains(length);
            String page = whole.substring(0, length);
            PolyDesk y = plain("7");
            type(y, page);
            if (isComplete) {
                due(y.put(0) >= 0 ? 1 : 0, 1, "the beginning " + page);
                due(written(y, 0), page, "what is held then");
            } else {
                refused(y, () -> y.put(0), STATE, "the beginning " + page);
            }
        }
        for (String page : List.of("1x", "x^2-1x", "0", "+1", "x+0", "x^6", "1000", "x+1 ", "x+x", "1+1", "s", LONGEST + "-1")) {
            PolyDesk y = plain("7");
            type(y, page);
            refused(y, () -> y.put(0), STATE, "the page " + page);
            due(y.count(6), page.length(), "the page stays");
        }
    }

    private static void putFull() {
        says("FULL if a coefficient of what the slot would hold is less than -999 or greater than 999");
        PolyDesk x = filled("f", "x");
        due(putText(x, 0, FREE_999), 4, "a free slot with 999");
        due(written(x, 0), "298x^4+999x^3+71x^2-657x-711", "a free slot with 999");
        due(putText(x, 0, FREE_MINUS_999), 4, "a free slot with -999");
        due(written(x, 0), "298x^4-999x^3+71x^2+657x-711", "a free slot with -999");
        for (String text : List.of(FREE_1000, FREE_MINUS_1000)) {
            x.blank();
            type(x, text);
            refused(x, () -> x.put(0), FULL, "a free slot with 1000 or -1000");
            due(x.count(6), text.length(), "the page stays");
            due(written(x, 0), "298x^4-999x^3+71x^2+657x-711", "what it holds stays");
            PolyDesk y = deskOf("sptm");
            for (int slot = 0; slot < 4; slot++) {
                due(putText(y, slot, text), 5, "slots of other kinds have room");
            }
        }
        PolyDesk y = deskOf("f");
        type(y, FREE_1000);
        refused(y, () -> y.put(0), FULL, "an empty slot");
        due(y.slot(0, 1), NONE, "it stays empty");
    }

    private static void slotProperties() {
        says("UNKNOWN if there is no such slot; OUTSIDE if what is not 0 to 7");
        PolyDesk x = plain("x^2-1");
        for (int slot : NO_SLOT_OF_FOUR) {
            for (int what = -2; what <= 9; what++) {
                due(x.slot(slot, what), UNKNOWN, "slot " + slot + ", " + what);
            }
        }
        for (int what : new int[] {LEAST, -2, -1, 8, 9, MOST}) {
            due(x.slot(0, what), OUTSIDE, "what " + what);
            due(x.slot(1, what), OUTSIDE, "what " + what + " of an empty slot");
        }
        says("0: kind; 1: degree (NONE if it is empty); 2: 1000 plus the content (0 if it is empty); 3: the length of "
                + "the text of its polynomial (0 if it is empty); 4: the number of factors; 5: the sum of their "
                + "multiplicities (4, 5: 0 if it is empty)");
        x = deskOf("mf");
        int[] empty = {2, NONE, 0, 0, 0, 0, 31, 0};
        for (int what = 0; what < 8; what++) {
            due(x.slot(1, what), empty[what], "an empty slot, " + what);
        }
        slotHolds(LONGEST, 5, 1, 37, 3, 3);
        slotHolds("1", 0, 1001, 1, 0, 0);
        slotHolds("-1", 0, 999, 2, 0, 0);
        slotHolds("999", 0, 1999, 3, 0, 0);
        slotHolds("-999", 0, 1, 4, 0, 0);
        slotHolds("x", 1, 1001, 1, 1, 1);
        slotHolds("-x", 1, 999, 2, 1, 1);
        slotHolds("x^5", 5, 1001, 3, 1, 5);
        slotHolds("x^5-5x^3+4x", 5, 1001, 11, 5, 5);
        slotHolds("-10x^2", 2, 990, 6, 1, 2);
        slotHolds("100x", 1, 1100, 4, 1, 1);
        slotHolds("99x+9", 1, 1009, 5, 1, 1);
        slotHolds("-2x^4+2", 4, 998, 7, 3, 3);
    }

    private static void slotHolds(String text, int... due) {
        PolyDesk x = plain(text);
        due(x.slot(0, 0), 0, "kind");
        for (int what = 1; what <= 5; what++) {
            due(x.slot(0, what), due[what - 1], "slot(0, " + what + ") with " + text);
        }
    }

    private static void slotQuestions() {
        says("7: the observation, 0 to 3, to be asked for next: the one for which the greater one of the numbers of "
                + "candidates with which this can happen, and with which it cannot, is smallest, of several the lowest "
                + "(NONE if there are no candidates)");
        int[] sets = {0b00110, 0b00100, 0b11110, 0b01110};
        TreeSet<Integer> seen = new TreeSet<>();
        for (int code = 0; code < 81; code++) {
            PolyDesk x = deskOf("ss");
            int candidates = 31;
            for (int what = 0, left = code; what < 4; what++, left /= 3) {
                if (left % 3 > 0) {
                    x.see(1, what, left % 3 == 1);
                    candidates &= left % 3 == 1 ? sets[what] : ~sets[what];
                }
            }
            due(x.slot(1, 6), candidates, "candidates, " + code);
            due(x.slot(1, 7), question(sets, candidates), "question, " + code);
            due(x.slot(0, 6), 31, "candidates of the other slot");
            due(x.slot(0, 7), 0, "question of the other slot");
            seen.add(x.slot(1, 7));
        }
        due(seen.toString(), "[-1, 0, 1, 2, 3]", "questions that came");
        PolyDesk x = deskOf("s");
        x.see(0, 0, true);
        x.see(0, 0, false);
        due(x.slot(0, 6), 0, "no candidates");
        due(x.slot(0, 7), NONE, "no candidates");
    }

    private static int question(int[] sets, int candidates) {
        int best = NONE;
        int least = 6;
        for (int what = 0; what < 4 && candidates != 0; what++) {
            int worse = Math.max(Integer.bitCount(candidates & sets[what]), Integer.bitCount(candidates & ~sets[what]));
            best = worse < least ? what : best;
            least = Math.min(least, worse);
        }
        return best;
    }

    private static void as() {
        says("Returns the number of the slot, or NONE if it is not an instance of the type");
        for (int slot = 0; slot < 4; slot++) {
            PolyDesk x = deskOf("ffff");
            int[] due = {slot, slot, slot, NONE, NONE};
            for (int kind = 0; kind < 5; kind++) {
                due(x.as(slot, kind), due[kind], "slot " + slot + " as " + kind);
            }
        }
        says("UNKNOWN if there is no such slot; OUTSIDE if kind is out of range");
        PolyDesk x = deskOf("spft");
        for (int slot : NO_SLOT_OF_FOUR) {
            for (int kind = -1; kind <= 5; kind++) {
                due(x.as(slot, kind), UNKNOWN, "slot " + slot + " as " + kind);
            }
        }
        for (int kind : new int[] {LEAST, -101, -1, 5, 6, MOST}) {
            refused(x, () -> x.as(2, kind), OUTSIDE, "as " + kind);
        }
    }

    private static void number() {
        says("UNKNOWN if there is no such slot, or it is empty; OUTSIDE if power is out of range");
        PolyDesk x = plain("999x^5-999");
        due(x.number(0, 0), 1, "the least coefficient");
        due(x.number(0, 5), 1999, "the greatest coefficient");
        due(x.number(0, 3), 1000, "a coefficient 0");
        putText(x, 1, "7");
        due(x.number(1, 0), 1007, "power 0");
        due(x.number(1, 5), 1000, "a power above the degree");
        for (int power : new int[] {LEAST, -1, 6, 7, MOST}) {
            due(x.number(0, power), OUTSIDE, "power " + power);
            due(x.number(2, power), UNKNOWN, "power " + power + " of an empty slot");
        }
        for (int slot : NO_SLOT_OF_FOUR) {
            due(x.number(slot, 0), UNKNOWN, "slot " + slot);
        }
        due(x.number(2, 0), UNKNOWN, "an empty slot");
        due(new PolyDesk().number(0, 0), UNKNOWN, "no desk");
    }

    private static void text() {
        says("UNKNOWN if there is no such slot, it is empty, or there is no such character");
        for (String text : List.of("1", "-1", "x", "-x", "x^5", "-x^5", "100", "-100x", "909x^2", "90x", LONGEST)) {
            PolyDesk x = plain(text);
            for (int place = -2; place <= 41; place++) {
                int due = place >= 0 && place < text.length() ? text.charAt(place) : UNKNOWN;
                due(x.text(0, place), due, "place " + place + " of " + text);
            }
        }
        PolyDesk x = plain("x");
        due(x.text(0, LEAST), UNKNOWN, "the least place");
        due(x.text(0, MOST), UNKNOWN, "the greatest place");
        due(x.text(1, 0), UNKNOWN, "an empty slot");
        for (int slot : NO_SLOT_OF_FOUR) {
            due(x.text(slot, 0), UNKNOWN, "slot " + slot);
        }
    }

    private static void factor() {
        says("0: its degree; 1: its multiplicity; 2 to 7: 100000 plus its coefficient of power what - 2");
        PolyDesk x = plain("-x^5+2", FREE_999, "-999x");
        int[] first = {5, 1, 99998, 100000, 100000, 100000, 100000, 100001};
        int[] second = {3, 1, 100711, 101368, 101297, 100298, 100000, 100000};
        int[] third = {1, 1, 100000, 100001, 100000, 100000, 100000, 100000};
        for (int what = 0; what < 8; what++) {
            due(x.factor(0, 0, what), first[what], "degree 5, " + what);
            due(x.factor(1, 1, what), second[what], "degree 3, " + what);
            due(x.factor(2, 0, what), third[what], "degree 1, " + what);
        }
        due(x.factor(1, 0, 1), 2, "a multiplicity 2");
        says("UNKNOWN if there is no such slot, it is empty, or there is no such factor; OUTSIDE if what is not 0 to 7");
        for (int slot : NO_SLOT_OF_FOUR) {
            due(x.factor(slot, 0, 0), UNKNOWN, "slot " + slot);
        }
        due(x.factor(3, 0, 0), UNKNOWN, "an empty slot");
        for (int factor : new int[] {LEAST, -1, 2, 3, 5, 6, MOST}) {
            due(x.factor(1, factor, 0), UNKNOWN, "factor " + factor);
            due(x.factor(1, factor, 8), UNKNOWN, "factor " + factor + ", 8");
        }
        for (int what : new int[] {LEAST, -1, 8, 9, MOST}) {
            due(x.factor(1, 1, what), OUTSIDE, "what " + what);
        }
        putText(x, 3, "-999");
        due(x.factor(3, 0, 0), UNKNOWN, "a number has no factor");
        putText(x, 3, "x^5-5x^3+4x");
        due(x.factor(3, 4, 2), 100002, "the last one of five factors");
        due(x.factor(3, 5, 2), UNKNOWN, "behind the last one of five factors");
        putText(x, 3, "x");
        due(x.factor(3, 1, 2), UNKNOWN, "a factor that was there before");
    }

    private static void value() {
        says("- `x`: -9 to 9");
        PolyDesk x = plain("x", "999x^5+999x^4+999x^3+999x^2+999x+999", "999x^5-999x^4+999x^3-999x^2+999x-999", "-7");
        for (int at = -9; at <= 9; at++) {
            due(x.value(0, at), at, "x at " + at);
            due(x.value(3, at), -7, "-7 at " + at);
        }
        due(x.value(1, 9), 999L * 66430, "the greatest value");
        due(x.value(2, -9), -999L * 66430, "the least value");
        due(x.value(1, 0), 999, "at 0");
        due(x.value(1, -1), 0, "at a root");
        says("UNKNOWN if there is no such slot, or it is empty; OUTSIDE if x is out of range");
        for (int at : new int[] {LEAST, -100, -10, 10, 11, MOST}) {
            due(x.value(0, at), OUTSIDE, "at " + at);
        }
        for (int slot : NO_SLOT_OF_FOUR) {
            due(x.value(slot, 0), UNKNOWN, "slot " + slot);
        }
        due(deskOf("s").value(0, 0), UNKNOWN, "an empty slot");
        due(plain("-101").value(0, 0), -101, "a value like a code");
    }

    // ---- promises 13 to 18

    private static void promise13to18() {
        promise(13);
        add();
        promise(14);
        times();
        timesFull();
        promise(15);
        common();
        promise(16);
        slope();
        promise(17);
        move();
        moveFull();
        promise(18);
        be();
    }

    /** Two operands and a result: each of the slots may be missing, and both operands may be empty. */
    private interface Operation {
        int answer(PolyDesk x, int one, int other, int to);
    }

    private static void unknownSlots(Operation operation) {
        PolyDesk x = filled("sptm", "2x^2+3", "x+1");
        for (int slot : NO_SLOT_OF_FOUR) {
            refused(x, () -> operation.answer(x, slot, 0, 0), UNKNOWN, "one " + slot);
            refused(x, () -> operation.answer(x, 0, slot, 0), UNKNOWN, "other " + slot);
            refused(x, () -> operation.answer(x, 0, 0, slot), UNKNOWN, "to " + slot);
            refused(x, () -> operation.answer(x, slot, slot, slot), UNKNOWN, "all three " + slot);
        }
        refused(x, () -> operation.answer(x, 2, 0, 1), UNKNOWN, "one is empty");
        refused(x, () -> operation.answer(x, 0, 3, 1), UNKNOWN, "other is empty");
        refused(x, () -> operation.answer(x, 3, 3, 3), UNKNOWN, "all three are empty");
        due(operation.answer(x, 0, 1, 2) >= 0 ? 1 : 0, 1, "to may be empty");
        due(x.count(1), 3, "to is filled then");
        PolyDesk y = new PolyDesk();
        refused(y, () -> operation.answer(y, 0, 0, 0), UNKNOWN, "no desk");
    }

    private static void add() {
        says("UNKNOWN if there is no such slot (any of the three), or one or other is empty");
        unknownSlots((x, one, other, to) -> x.add(one, other, to));
        says("Returns the degree of what the slot to holds then");
        PolyDesk x = plain("x^5-x^2+7", "-x^5+x^2", "-x^5+x");
        due(x.add(0, 0, 3), 5, "the same degree");
        due(x.add(0, 2, 3), 2, "a lower degree");
        due(x.add(0, 1, 3), 0, "degree 0");
        due(written(x, 3), "7", "degree 0");
        x.be(3, 3);
        due(x.add(1, 1, 3), 3, "turned");
        due(written(x, 3), "2x^3-2", "turned");
        says("STATE if the sum is 0");
        for (String text : List.of("1", "-999", "x", LONGEST, "x^5-999x")) {
            for (int kind = 0; kind < 5; kind++) {
                PolyDesk y = plain(text, "-1", "7");
                y.times(0, 1, 1);
                y.be(2, kind);
                refused(y, () -> y.add(0, 1, 2), STATE, "a sum 0 of " + text);
                refused(y, () -> y.add(0, 1, 0), STATE, "a sum 0 of " + text + " to one of them");
            }
        }
        says("FULL if a coefficient of it, or of what the slot would hold, is less than -999 or greater than 999");
        for (String power : POWERS) {
            int degree = List.of(POWERS).indexOf(power);
            PolyDesk y = plain("500" + power, "499" + power, "-500" + power, "-499" + power);
            refused(y, () -> y.add(0, 0, 1), FULL, "1000" + power);
            refused(y, () -> y.add(2, 2, 1), FULL, "-1000" + power);
            due(y.add(0, 1, 1), degree, "999" + power);
            due(y.number(1, degree), 1999, "999" + power);
            due(y.add(2, 3, 3), degree, "-999" + power);
            due(y.number(3, degree), 1, "-999" + power);
            refused(y, () -> y.add(1, 1, 0), FULL, "1998" + power);
            refused(y, () -> y.add(3, 3, 0), FULL, "-1998" + power);
        }
        intoKinds((y, one, to) -> y.add(one, 1, to), "x", "500x^2-500", "499x^2-500");
        freeSlots((y, text) -> {
            putText(y, 0, text);
            y.be(1, 0);
            putText(y, 1, "-x");
            y.add(0, 1, 0);
            putText(y, 1, "x");
            return y.add(0, 1, 2);
        });
    }

    private interface Step {
        int answer(PolyDesk x, int one, int to);
    }

    /** Doubles a polynomial that is beyond 999 then, which counts even where the slot would hold less. */
    private static void intoKinds(Step step, String other, String beyond, String within) {
        for (int kind = 0; kind < 5; kind++) {
            PolyDesk x = plain(beyond, beyond, "7");
            x.be(2, kind);
            refused(x, () -> step.answer(x, 0, 2), FULL, beyond + " into kind " + kind);
            due(written(x, 2), "7", "what it holds stays");
            PolyDesk y = plain(within, other);
            y.be(2, kind);
            due(step.answer(y, 0, 2) >= 0 ? 1 : 0, 1, within + " into kind " + kind);
        }
    }

    private interface Way {
        int answer(PolyDesk x, String text);
    }

    /** A result within 999, each factor of which once makes 999, -999, 1000 or -1000 in a free slot. */
    private static void freeSlots(Way way) {
        due(way.answer(filled("ssf", "x", "x", "x"), FREE_999), 4, "999 in a free slot");
        due(way.answer(filled("ssf", "x", "x", "x"), FREE_MINUS_999), 4, "-999 in a free slot");
        for (String text : List.of(FREE_1000, FREE_MINUS_1000)) {
            PolyDesk x = filled("ssf", "x", "x", "x");
            due(way.answer(x, text), FULL, "1000 in a free slot");
            due(written(x, 2), "x", "what it holds stays");
            due(way.answer(filled("sss", "x", "x", "x"), text), 5, "a plain slot has room");
        }
    }

    private static void times() {
        says("UNKNOWN if there is no such slot (any of the three), or one or other is empty");
        unknownSlots((x, one, other, to) -> x.times(one, other, to));
        PolyDesk x = plain("x^5", "x^5");
        due(x.times(0, 1, 4), UNKNOWN, "and a degree 10");
        says("FULL if the degree of the product is above 5");
        for (int one = 0; one <= 5; one++) {
            for (int other = 0; other <= 5; other++) {
                PolyDesk y = plain("3" + POWERS[one], "-2" + POWERS[other], "7");
                if (one + other > 5) {
                    refused(y, () -> y.times(0, 1, 2), FULL, "degrees " + one + " and " + other);
                    due(written(y, 2), "7", "what it holds stays");
                } else {
                    due(y.times(0, 1, 2), one + other, "degrees " + one + " and " + other);
                    due(written(y, 2), "-6" + POWERS[one + other], "degrees " + one + " and " + other);
                }
            }
        }
        for (int kind = 0; kind < 5; kind++) {
            PolyDesk y = plain("x^3");
            y.be(1, kind);
            refused(y, () -> y.times(0, 0, 1), FULL, "a degree 6 into kind " + kind);
        }
        says("Returns the degree of what the slot to holds then");
        x = filled("sftp", "-3x^2");
        due(x.times(0, 0, 1), 1, "free");
        due(x.times(0, 0, 2), 0, "turned");
        due(x.times(0, 0, 3), 4, "pure");
        due(written(x, 2), "9", "turned");
    }

    private static void timesFull() {
        says("FULL if a coefficient of it, or of what the slot would hold, is less than -999 or greater than 999");
        for (int degree = 0; degree <= 5; degree++) {
            PolyDesk y = plain("27" + POWERS[degree], "37", "-37", "7");
            due(y.times(0, 1, 3), degree, "999");
            due(y.number(3, degree), 1999, "999");
            due(y.times(0, 2, 3), degree, "-999");
            due(y.number(3, degree), 1, "-999");
            PolyDesk z = plain("25" + POWERS[degree], "40", "-40", "7");
            refused(z, () -> z.times(0, 1, 3), FULL, "1000");
            refused(z, () -> z.times(0, 2, 3), FULL, "-1000");
        }
        PolyDesk x = plain("20x+20", "25x+25", "-20x-20", "999");
        refused(x, () -> x.times(0, 1, 3), FULL, "1000 in the middle");
        refused(x, () -> x.times(1, 2, 3), FULL, "-1000 in the middle");
        refused(x, () -> x.times(3, 3, 3), FULL, "998001");
        intoKinds((y, one, to) -> y.times(one, one, to), "x", "32x^2-32", "22x^2-22");
        freeSlots((y, text) -> {
            putText(y, 0, text);
            putText(y, 1, "-1");
            return y.times(0, 1, 2);
        });
    }

    private static void common() {
        says("UNKNOWN if there is no such slot (any of the three), or one or other is empty");
        unknownSlots((x, one, other, to) -> x.common(one, other, to));
        says("Returns the degree of what the slot to holds then");
        PolyDesk x = filled("ssftp".substring(0, 4), "-6x^5+6x^3", "4x^4-4x^3");
        due(x.common(0, 1, 0), 4, "plain");
        due(written(x, 0), "2x^4-2x^3", "plain");
        due(x.common(0, 1, 2), 2, "free");
        due(written(x, 2), "x^2-x", "free");
        due(x.common(0, 1, 3), 1, "turned");
        due(written(x, 3), "-2x+2", "turned");
        x.be(3, 1);
        due(x.common(0, 1, 3), 4, "pure");
        due(written(x, 3), "x^4-x^3", "pure");
        due(x.common(2, 3, 2), 2, "free of a free one");
        putText(x, 0, "5");
        due(x.common(0, 1, 0), 0, "a number");
        says("FULL if a coefficient of it, or of what the slot would hold, is less than -999 or greater than 999");
        x = plain("420x^5+159x^4-923x^3-59x^2+151x+252", "420x^5+159x^4-503x^3+940x^2+806x+504", "7");
        due(x.common(0, 1, 2), 3, "999");
        due(written(x, 2), "420x^3+999x^2+655x+252", "999");
        x = plain("-420x^5+159x^4+923x^3-59x^2-151x+252", "-420x^5+159x^4+503x^3+940x^2-806x+504", "7");
        due(x.common(0, 1, 2), 3, "-999");
        due(written(x, 2), "420x^3-999x^2+655x-252", "-999");
        for (int kind = 0; kind < 5; kind++) {
            PolyDesk y = plain("574x^5-148x^4-742x^3-27x^2+2x+341", "574x^5-148x^4-168x^3+973x^2+686x+682", "7");
            y.be(2, kind);
            refused(y, () -> y.common(0, 1, 2), FULL, "1000 into kind " + kind);
            PolyDesk z = plain("-574x^5-148x^4+742x^3-27x^2-2x+341", "-574x^5-148x^4+168x^3+973x^2-686x+682", "7");
            z.be(2, kind);
            refused(z, () -> z.common(0, 1, 2), FULL, "-1000 into kind " + kind);
        }
        freeSlots((y, text) -> {
            putText(y, 0, text);
            return y.common(0, 0, 2);
        });
    }

    private static void slope() {
        says("UNKNOWN if there is no such slot (either one), or one is empty");
        PolyDesk x = filled("sptm", "2x^2+3");
        for (int slot : NO_SLOT_OF_FOUR) {
            refused(x, () -> x.slope(slot, 0), UNKNOWN, "one " + slot);
            refused(x, () -> x.slope(0, slot), UNKNOWN, "to " + slot);
        }
        refused(x, () -> x.slope(1, 0), UNKNOWN, "one is empty");
        due(x.slope(0, 1), 1, "to may be empty");
        says("Returns the degree of what the slot to holds then");
        PolyDesk y = filled("sspf", "x^5-5x", "3x");
        due(y.slope(0, 3), 4, "free");
        due(written(y, 3), "x^4-1", "free");
        due(y.slope(1, 3), 0, "degree 0");
        due(written(y, 3), "1", "free");
        due(y.slope(1, 1), 0, "degree 0");
        due(written(y, 1), "3", "plain");
        y.be(2, 3);
        putText(y, 0, "x^5");
        due(y.slope(0, 2), 0, "turned");
        due(written(y, 2), "5", "turned");
        says("STATE if the polynomial has degree 0");
        for (String text : List.of("1", "-1", "999", "-999")) {
            for (int kind = 0; kind < 5; kind++) {
                PolyDesk z = plain(text, "x");
                z.be(1, kind);
                refused(z, () -> z.slope(0, 1), STATE, "the derivative of " + text);
                refused(z, () -> z.slope(0, 0), STATE, "the derivative of " + text + " to itself");
            }
        }
        says("FULL if a coefficient of it, or of what the slot would hold, is less than -999 or greater than 999");
        // No derivative shows the second part: of degree 4 or less none is within 999 that isn't with each factor once.
        int[] within = {999, 499, 333, 249, 199};
        for (int power = 1; power <= 5; power++) {
            int most = within[power - 1];
            due(slopeOf(most, power, 0), power - 1, "the derivative of " + most + POWERS[power]);
            due(slopeOf(-most, power, 0), power - 1, "the derivative of " + -most + POWERS[power]);
            for (int kind = 0; kind < 5 && power > 1; kind++) {
                due(slopeOf(most + 1, power, kind), FULL, "the derivative of " + (most + 1) + POWERS[power]);
                due(slopeOf(-most - 1, power, kind), FULL, "the derivative of " + (-most - 1) + POWERS[power]);
            }
        }
    }

    /** The answer of slope for one term, which leaves the slot as it was if it is refused. */
    private static int slopeOf(int coefficient, int power, int kind) {
        PolyDesk x = plain(coefficient + POWERS[power], "7");
        x.be(1, kind);
        long before = x.digest();
        int answer = x.slope(0, 1);
        if (answer < 0) {
            due(x.digest(), before, "the digest");
        } else {
            due(x.number(1, power - 1), 1000 + coefficient * power, "the coefficient");
        }
        return answer;
    }

    private static void move() {
        says("- `by`: -9 to 9");
        for (int by = -9; by <= 9; by++) {
            PolyDesk x = plain("x", "-7");
            due(x.move(0, by, 2), 1, "x by " + by);
            due(x.number(2, 0), 1000 + by, "x by " + by);
            due(x.move(1, by, 2), 0, "a number by " + by);
            due(written(x, 2), "-7", "a number by " + by);
            putText(x, 0, "x^2-9x");
            due(x.move(0, by, 0), 2, "x^2-9x by " + by);
            due(x.number(0, 0), 1000 + by * by - 9 * by, "x^2-9x by " + by);
            due(x.number(0, 1), 1000 + 2 * by - 9, "x^2-9x by " + by);
        }
        says("UNKNOWN if there is no such slot (either one), or one is empty; OUTSIDE if by is out of range");
        PolyDesk x = filled("sptm", "2x^2+3");
        for (int slot : NO_SLOT_OF_FOUR) {
            refused(x, () -> x.move(slot, 1, 0), UNKNOWN, "one " + slot);
            refused(x, () -> x.move(0, 1, slot), UNKNOWN, "to " + slot);
        }
        refused(x, () -> x.move(1, 1, 0), UNKNOWN, "one is empty");
        for (int by : new int[] {LEAST, -100, -10, 10, 11, MOST}) {
            refused(x, () -> x.move(0, by, 0), OUTSIDE, "by " + by);
            refused(x, () -> x.move(1, by, 0), UNKNOWN, "one is empty, by " + by);
        }
        due(x.move(0, 1, 1), 2, "to may be empty");
        says("Returns the degree of what the slot to holds then");
        PolyDesk y = filled("spft", "-2x^3-2x^2");
        due(y.move(0, -1, 0), 3, "plain");
        due(written(y, 0), "-2x^3+4x^2-2x", "plain");
        due(y.move(0, 1, 2), 2, "free");
        due(written(y, 2), "x^2+x", "free");
        due(y.move(0, 1, 3), 1, "turned");
        due(written(y, 3), "-2x-2", "turned");
        due(y.move(0, 1, 1), 3, "pure");
        due(written(y, 1), "x^3+x^2", "pure");
    }

    private static void moveFull() {
        says("FULL if a coefficient of it, or of what the slot would hold, is less than -999 or greater than 999");
        PolyDesk x = plain("111x", "111x+1", "111x-1", "7");
        due(x.move(0, 9, 3), 1, "999");
        due(written(x, 3), "111x+999", "999");
        due(x.move(0, -9, 3), 1, "-999");
        due(written(x, 3), "111x-999", "-999");
        refused(x, () -> x.move(1, 9, 3), FULL, "1000");
        refused(x, () -> x.move(2, -9, 3), FULL, "-1000");
        due(x.move(1, -9, 3), 1, "-998");
        due(x.move(2, 9, 3), 1, "998");
        PolyDesk y = plain("x^5", "x^3", "-x^3", "7");
        due(y.move(0, 3, 3), 5, "x^5 by 3");
        due(written(y, 3), "x^5+15x^4+90x^3+270x^2+405x+243", "x^5 by 3");
        due(y.move(0, -3, 3), 5, "x^5 by -3");
        refused(y, () -> y.move(0, 4, 3), FULL, "x^5 by 4");
        refused(y, () -> y.move(0, -4, 3), FULL, "x^5 by -4");
        refused(y, () -> y.move(0, 9, 3), FULL, "x^5 by 9");
        due(y.move(1, 9, 3), 3, "x^3 by 9");
        due(written(y, 3), "x^3+27x^2+243x+729", "x^3 by 9");
        due(y.move(2, -9, 3), 3, "-x^3 by -9");
        due(written(y, 3), "-x^3+27x^2-243x+729", "-x^3 by -9");
        PolyDesk z = plain(LONGEST);
        refused(z, () -> z.move(0, 9, 0), FULL, "the greatest coefficients by 9");
        refused(z, () -> z.move(0, -9, 0), FULL, "the greatest coefficients by -9");
        refused(z, () -> z.move(0, 1, 0), FULL, "the greatest coefficients by 1");
        due(z.move(0, 0, 1), 5, "by 0");
        intoKinds((w, one, to) -> w.move(one, 2, to), "x", "250x^2", "249x^2");
        freeSlots((w, text) -> {
            putText(w, 0, text);
            return w.move(0, 0, 2);
        });
    }

    private static void be() {
        says("Changes the kind of a slot. What it holds stays as it is.");
        for (int from = 0; from < 5; from++) {
            for (int to = 0; to < 5; to++) {
                PolyDesk x = plain("-6x^5+6x^3", "x");
                x.be(0, from);
                due(x.be(0, to), from, "from " + from + " to " + to);
                due(x.slot(0, 0), to, "the kind then");
                due(x.slot(1, 0), 0, "the other slot");
                due(written(x, 0), "-6x^5+6x^3", "what it holds");
                due(factors(x, 0), "1*1,-1 3*1,0 1*1,1", "its factors");
                due(x.be(2, to), 0, "an empty slot");
                due(x.slot(2, 1), NONE, "it stays empty");
            }
        }
        says("Returns the previous kind");
        PolyDesk x = deskOf("m");
        due(x.be(0, 0), 4, "was mirror");
        due(x.be(0, 0), 0, "was plain");
        says("UNKNOWN if there is no such slot; OUTSIDE if kind is out of range");
        PolyDesk y = plain("x");
        for (int slot : NO_SLOT_OF_FOUR) {
            refused(y, () -> y.be(slot, 1), UNKNOWN, "slot " + slot);
        }
        for (int kind : new int[] {LEAST, -101, -1, 5, 6, MOST}) {
            refused(y, () -> y.be(0, kind), OUTSIDE, "kind " + kind);
        }
    }

    // ---- promises 19 to 23

    private static void promise19to23() {
        promise(19);
        parts();
        promise(20);
        degrees();
        promise(21);
        see();
        promise(22);
        forget();
        promise(23);
        drawn();
    }

    private static void parts() {
        says("1: the degrees of all parts as decimal digits, in ascending order, the lowest one first");
        PolyDesk x = plain("x^5+x+1", "x^5-x", "x^5+x^2+1", "x^5-5x^3+4x");
        due(x.parts(0, 2, 1), 23, "2 and 3");
        due(x.parts(0, 13, 1), 113, "1, 1 and 3");
        due(x.parts(1, 3, 1), 1112, "1, 1, 1 and 2");
        due(x.parts(2, 13, 1), 122, "1, 2 and 2");
        due(x.parts(2, 3, 1), 14, "1 and 4");
        due(x.parts(2, 2, 1), 5, "5");
        due(x.parts(3, 13, 1), 11111, "five times 1");
        says("NONE if the polynomial is not good for the prime (also if its degree is 0)");
        x = plain("1", "-999", "2x+1", "x^2+1");
        for (int prime : new int[] {2, 3, 5, 7, 11, 13}) {
            due(x.parts(0, prime, 0), NONE, "1, " + prime);
            due(x.parts(1, prime, 1), NONE, "-999, " + prime);
            due(x.parts(2, prime, 0), prime == 2 ? NONE : 1, "2x+1, " + prime);
            due(x.parts(3, prime, 1) == NONE ? 1 : 0, prime == 2 ? 1 : 0, "x^2+1, " + prime);
        }
        says("UNKNOWN if there is no such slot, or it is empty; OUTSIDE if prime or what is out of range");
        PolyDesk y = plain("x");
        for (int slot : NO_SLOT_OF_FOUR) {
            due(y.parts(slot, 2, 0), UNKNOWN, "slot " + slot);
        }
        due(y.parts(1, 2, 0), UNKNOWN, "an empty slot");
        for (int prime = -40; prime <= 40; prime++) {
            boolean isPrime = List.of(2, 3, 5, 7, 11, 13).contains(prime);
            due(y.parts(0, prime, 0), isPrime ? 1 : OUTSIDE, "prime " + prime);
            due(y.parts(1, prime, 0), UNKNOWN, "an empty slot, prime " + prime);
        }
        for (int prime : new int[] {LEAST, LEAST + 2, MOST, 65536 + 2, 17, 169}) {
            due(y.parts(0, prime, 0), OUTSIDE, "prime " + prime);
        }
        for (int what : new int[] {LEAST, -1, 2, 3, MOST}) {
            due(y.parts(0, 2, what), OUTSIDE, "what " + what);
        }
        due(y.parts(0, 2, 0) + y.parts(0, 2, 1), 2, "one part of degree 1");
    }

    private static void degrees() {
        says("UNKNOWN if there is no such slot, or it is empty");
        PolyDesk x = plain("x^5-5x^3+4x", "-7");
        due(x.degrees(0), 63, "the most degrees");
        due(x.degrees(1), 1, "a number");
        due(x.degrees(2), UNKNOWN, "an empty slot");
        for (int slot : NO_SLOT_OF_FOUR) {
            due(x.degrees(slot), UNKNOWN, "slot " + slot);
        }
        due(new PolyDesk().degrees(0), UNKNOWN, "no desk");
    }

    private static void see() {
        says("UNKNOWN if there is no such slot; OUTSIDE if what is out of range; FULL if there are 6");
        PolyDesk x = deskOf("spft");
        for (int slot : NO_SLOT_OF_FOUR) {
            refused(x, () -> x.see(slot, 0, true), UNKNOWN, "slot " + slot);
        }
        for (int what : new int[] {LEAST, -1, 4, 5, MOST}) {
            refused(x, () -> x.see(0, what, false), OUTSIDE, "what " + what);
        }
        for (int i = 1; i <= 6; i++) {
            due(x.see(3, 2, true), i, "observation " + i + ", even the same one");
        }
        refused(x, () -> x.see(3, 2, false), FULL, "the seventh");
        refused(x, () -> x.see(0, 0, true), FULL, "the seventh, of another slot");
        refused(x, () -> x.see(0, 4, true), OUTSIDE, "the seventh, out of range");
        refused(x, () -> x.see(4, 0, true), UNKNOWN, "the seventh, no slot");
        due(x.slot(3, 6), 30, "what the six say");
        says("Returns the number of observations");
        due(x.forget(), 6, "six");
        due(x.see(0, 0, true), 1, "the first one again");
        due(x.see(1, 0, true), 2, "those of all slots count");
    }

    private static void forget() {
        says("Returns how many there were.");
        PolyDesk x = deskOf("ss");
        for (int count = 0; count <= 6; count++) {
            for (int i = 0; i < count; i++) {
                x.see(i % 2, 0, i % 3 == 0);
            }
            due(x.forget(), count, "observations");
            due(x.count(5), 0, "none then");
            due(x.slot(0, 6) + x.slot(1, 6), 62, "all are candidates");
        }
        due(x.forget(), 0, "none");
        due(new PolyDesk().forget(), 0, "no desk");
    }

    private static void drawn() {
        says("x becomes (1103515245 * x + 12345) modulo 2 to the power of 31");
        int[][] due = {{1, 0, 0, 2, 1449466924}, {1, 1, 1, 1, 1147902781}, {1, 2, 1, 1, 846338638},
                {2, 3, 2, 2, 1018653819}, {3, 11, 2, 4, 65001183}, {4, 12345, 2, 6, 2121308585}, {4, MOST, 2, 6, 94299887},
                {4, MOST - 1, 4, 4, 640312494}, {1, MOST, 0, 2, 1751031067}, {4, 0, 2, 6, 1695770928},
                {4, 1, 4, 4, 1149758321}, {1, 17, 0, 3, 617843789}, {1, 44, 0, 4, 1065546520}};
        PolyDesk x = new PolyDesk();
        for (int[] row : due) {
            for (int what = 0; what < 3; what++) {
                due(x.drawn(row[0], row[1], what), row[2 + what], "drawn(" + row[0] + ", " + row[1] + ", " + what + ")");
            }
        }
        says("- `times`: the number of polynomials, 1 to 4");
        for (int times : new int[] {LEAST, -1, 0, 5, 6, MOST}) {
            refused(x, () -> x.drawn(times, 1, 0), OUTSIDE, "times " + times);
        }
        says("- `seed`: the seed, 0 or more");
        for (int seed : new int[] {LEAST, LEAST + 1, -65536, -2, -1}) {
            refused(x, () -> x.drawn(1, seed, 2), OUTSIDE, "seed " + seed);
        }
        says("OUTSIDE if an argument is out of range");
        for (int what : new int[] {LEAST, -1, 3, 4, MOST}) {
            refused(x, () -> x.drawn(1, 1, what), OUTSIDE, "what " + what);
        }
        refused(x, () -> x.drawn(0, -1, 3), OUTSIDE, "all three");
        says("Factors pseudo-random polynomials; nothing is changed.");
        PolyDesk y = filled("ft", "x^5-5x^3+4x", "2x-3");
        y.see(0, 0, true);
        y.image();
        type(y, "x^");
        long before = y.digest();
        long restored = afterRestore(y);
        due(y.drawn(4, 44, 1), 9, "beside what is held");
        due(y.digest(), before, "nothing is changed");
        due(afterRestore(y), restored, "the image stays");
        putText(y, 0, LONGEST);
        due(y.drawn(4, 44, 0), 2, "behind a polynomial of degree 5");
        due(y.drawn(4, 44, 1), 9, "behind a polynomial of degree 5");
    }

    // ---- promises 24 to 27

    private static void promise24to27() {
        promise(24);
        image();
        promise(25);
        restore();
        restoreAfterDesk();
        promise(26);
        count();
        promise(27);
        digest();
    }

    private static void image() {
        says("STATE if there is no desk");
        PolyDesk x = new PolyDesk();
        refused(x, () -> x.image(), STATE, "no desk");
        refused(x, () -> x.restore(), STATE, "no image from that");
        type(x, "q");
        x.desk();
        refused(x, () -> x.image(), STATE, "no desk, after one that could not be read");
        says("Returns the number of slots that are not empty");
        PolyDesk y = deskOf("ssss");
        due(y.image(), 0, "all are empty");
        for (int slot = 3; slot >= 0; slot--) {
            putText(y, slot, "x");
            due(y.image(), 4 - slot, "filled from the last one on");
        }
        says("Saves an image, in place of an earlier one: the kinds of the slots, what they hold, and the observations.");
        PolyDesk z = filled("sp", "-2x^2+2");
        z.see(1, 0, false);
        due(z.image(), 1, "the earlier image");
        z.be(0, 4);
        z.add(0, 0, 1);
        z.forget();
        due(z.image(), 2, "the later image");
        z.be(0, 2);
        z.be(1, 3);
        putText(z, 0, "x^5");
        putText(z, 1, "7");
        z.see(0, 1, true);
        due(z.restore(), 2, "the later image counts");
        due(z.slot(0, 0) + 10 * z.slot(1, 0), 14, "kinds");
        due(written(z, 0) + " " + written(z, 1), "-2x^2+2 x^2-1", "what they hold");
        due(factors(z, 0) + " " + factors(z, 1), "1*1,-1 1*1,1 1*1,-1 1*1,1", "their factors");
        due(z.count(5), 0, "observations");
    }

    private static void restore() {
        says("STATE if there is no image, or a desk has been read since it was saved (even from the same text)");
        PolyDesk x = new PolyDesk();
        refused(x, () -> x.restore(), STATE, "a new object");
        PolyDesk y = plain("x");
        refused(y, () -> y.restore(), STATE, "no image of a desk");
        says("Restores the image, which stays saved.");
        PolyDesk z = filled("spf", "2x^3-2x", "x+1");
        z.see(0, 0, true);
        z.see(2, 1, false);
        due(z.image(), 2, "image");
        long before = z.digest();
        for (int i = 0; i < 3; i++) {
            z.be(0, i);
            z.move(0, 1, 2);
            z.slope(1, 1);
            z.see(1, 3, true);
            due(z.restore(), 2, "time " + i);
            due(z.digest(), before, "all is as it was, time " + i);
            due(z.slot(2, 1), NONE, "empty again");
            z.forget();
        }
        due(z.restore(), 2, "observations that were removed");
        due(z.digest(), before, "observations that were removed");
        putText(z, 0, "-x^5+x^4");
        z.image();
        putText(z, 0, "x-1");
        z.restore();
        due(factors(z, 0), "1*1,-1 4*1,0", "multiplicities are restored");
        says("Returns the number of slots that are not empty then");
        PolyDesk w = deskOf("ssss");
        w.image();
        putText(w, 0, "x");
        putText(w, 3, "x");
        due(w.restore(), 0, "all are empty again");
        due(w.count(1), 0, "all are empty again");
        putText(w, 1, "x");
        w.image();
        putText(w, 2, "x");
        due(w.restore(), 1, "one");
        type(w, "abc");
        due(w.restore(), 1, "with a page");
        due(w.count(6), 3, "the page stays");
        due(w.count(7), 1, "the desks read stay");
    }

    private static void restoreAfterDesk() {
        says("a desk has been read since it was saved (even from the same text)");
        PolyDesk x = filled("sp", "x");
        x.image();
        type(x, "sp");
        x.desk();
        refused(x, () -> x.restore(), STATE, "the same text");
        type(x, "t");
        x.desk();
        refused(x, () -> x.restore(), STATE, "two desks");
        due(x.image(), 0, "a new image");
        x.be(0, 4);
        due(x.restore(), 0, "of the new desk");
        due(x.slot(0, 0), 3, "of the new desk");
        for (String page : List.of("", "q", "sssss")) {
            x.blank();
            type(x, page);
            x.be(0, 1);
            due(x.desk(), STATE, "no desk: " + page);
            due(x.restore(), 0, "a page that was no desk does not count");
            due(x.slot(0, 0), 3, "a page that was no desk does not count");
        }
        PolyDesk y = deskOf("s");
        type(y, "s");
        y.desk();
        y.image();
        due(y.restore(), 0, "a desk that was read before the image");
    }

    private static void count() {
        says("OUTSIDE if what is not 0 to 7");
        PolyDesk x = plain(LONGEST, LONGEST, LONGEST, LONGEST);
        for (int what : new int[] {LEAST, -1, 8, 9, MOST}) {
            refused(x, () -> x.count(what), OUTSIDE, "what " + what);
            due(new PolyDesk().count(what), OUTSIDE, "no desk, " + what);
        }
        says("0: slots; 1: slots that are not empty; 2: slots that hold an irreducible polynomial; 3: the sum of the "
                + "degrees of all polynomials in slots; 4: the sum of the lengths of their texts; 5: observations; 6: "
                + "characters on the page; 7: how often a desk has been read");
        for (int i = 0; i < 6; i++) {
            x.see(i % 4, 0, true);
        }
        type(x, repeated(" ", 40));
        int[] most = {4, 4, 0, 20, 148, 6, 40, 1};
        int[] some = {4, 4, 3, 5, 16, 0, 0, 1};
        int[] empty = {2, 0, 0, 0, 0, 0, 0, 1};
        for (int what = 0; what < 8; what++) {
            due(x.count(what), most[what], "the most, " + what);
            due(plain("x^2-2", "2x+1", "-7", "x^2+3").count(what), some[what], "some, " + what);
            due(deskOf("tm").count(what), empty[what], "an empty desk, " + what);
            due(new PolyDesk().count(what), 0, "no desk, " + what);
        }
        PolyDesk y = new PolyDesk();
        for (int i = 1; i <= 200; i++) {
            y.letter(i % 3 == 0 ? 'q' : 's');
            y.desk();
            y.blank();
        }
        due(y.count(7), 134, "only desks that could be read");
    }

    private static void digest() {
        says("It starts with h = 1409, and for each of the following numbers v, h becomes 31 * h + v (long arithmetic "
                + "that wraps)");
        PolyDesk x = new PolyDesk();
        type(x, repeated("~", 40));
        BigInteger h = BigInteger.valueOf(1409);
        for (int i = 0; i < 40; i++) {
            h = h.multiply(BigInteger.valueOf(31)).add(BigInteger.valueOf(126));
        }
        for (int v : new int[] {0, 0, 0, 0, 0, 0, 40, 0}) {
            h = h.multiply(BigInteger.valueOf(31)).add(BigInteger.valueOf(v));
        }
        due(x.digest(), h.longValue(), "a full page, which wraps");
        due(x.digest(), x.digest(), "it changes nothing");
        due(new PolyDesk().digest(), 1409L * 852891037441L, "a new object");
        says("for each slot the results of slot() for 0 to 7, and, if it is not empty, the results of number() for 0 to "
                + "5, for each factor those of factor() for 0 to 7, the result of degrees(), that of value() for 3, and "
                + "the codes of all characters of its text; after all slots the codes of the characters on the page, and "
                + "the results of count() for 0 to 7");
        for (String text : List.of("1", "-999", "x", "x^5-5x^3+4x", LONGEST, FREE_1000, "-x^5+2")) {
            for (String page : List.of("", "~", repeated(" ", 40))) {
                PolyDesk y = filled("smpt", text, text, text);
                y.see(1, 3, true);
                type(y, page);
                due(y.digest(), digestByWords(y, page), text + " and the page " + page);
            }
        }
        PolyDesk y = deskOf("ssss");
        due(y.digest(), digestByWords(y, ""), "empty slots");
        PolyDesk z = filled("f", "x");
        long before = z.digest();
        z.be(0, 0);
        due(z.digest() == before ? 1 : 0, 0, "the kind counts");
    }
}
