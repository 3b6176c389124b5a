import java.util.List;

/** For each promise of the document ordinary inputs, the edges that it names, and wrong inputs. */
public final class PromiseTests extends TestBase {
    public static void main(String[] args) {
        newObject();
        letter();
        blank();
        fault();
        desk();
        put();
        slot();
        slotObservations();
        as();
        number();
        text();
        factor();
        factorKinds();
        value();
        add();
        times();
        common();
        slope();
        move();
        be();
        parts();
        degrees();
        see();
        forget();
        drawn();
        image();
        restore();
        count();
        digest();
        errorsInOrder();
        end("PromiseTests");
    }

    // ---- promises

    private static void newObject() {
        section = "1 new object";
        PolyDesk x = new PolyDesk();
        for (int what = 0; what < 8; what++) {
            due(x.count(what), 0, "count " + what);
        }
        due(x.slot(0, 0), UNKNOWN, "slot");
        due(x.blank(), 0, "blank");
        due(x.fault(), 0, "fault");
        due(x.image(), STATE, "image");
        due(x.forget(), 0, "forget");
        PolyDesk other = deskOf("s");
        due(x.count(0) + 10 * other.count(0), 10, "objects are apart");
    }

    private static void letter() {
        section = "2 letter";
        PolyDesk x = new PolyDesk();
        due(x.letter(31), OUTSIDE, "31");
        due(x.letter(127), OUTSIDE, "127");
        due(x.letter(-1), OUTSIDE, "-1");
        due(x.letter(Integer.MAX_VALUE), OUTSIDE, "most");
        due(x.letter(Integer.MIN_VALUE), OUTSIDE, "least");
        due(x.letter(32), 1, "32");
        due(x.letter(126), 2, "126");
        for (int i = 3; i <= 40; i++) {
            due(x.letter('x'), i, "letter");
        }
        due(x.letter('x'), FULL, "41st");
        due(x.letter(127), OUTSIDE, "OUTSIDE before FULL");
        due(x.count(6), 40, "nothing changed");
    }

    private static void blank() {
        section = "3 blank";
        PolyDesk x = new PolyDesk();
        due(x.blank(), 0, "empty");
        type(x, "abc");
        due(x.blank(), 3, "three");
        due(x.blank(), 0, "again");
        due(x.letter('s'), 1, "page starts anew");
        due(x.desk(), 1, "only the new letter is there");
    }

    private static void fault() {
        section = "4 fault";
        for (String allowed : List.of("", "-", "x", "-x", "x^", "x^5", "1", "-1", "10", "100", "999", "12x", "2x^4-",
                "x^5+x^4+x^3+x^2+x+1", "-999x^5-999x^4-999x^3-999x^2-999x-999", "x^3+x", "x^3+x^", "x^3+x^2", "x^3-7",
                "x-1", "x^2+10x", "101x^2", "x+11")) {
            due(faultOf(allowed), allowed.length(), allowed);
        }
        due(faultOf("+x"), 0, "+ before the first term");
        due(faultOf("0"), 0, "zero");
        due(faultOf("-0"), 1, "minus zero");
        due(faultOf("x+0"), 2, "zero behind");
        due(faultOf("01"), 0, "leading zero");
        due(faultOf("1x"), 1, "1 before x");
        due(faultOf("x^2-1x"), 5, "1 before a later x");
        due(faultOf("1000"), 3, "four digits");
        due(faultOf("9999x"), 3, "four digits before x");
        due(faultOf("1001"), 3, "1001");
        due(faultOf("1009x"), 3, "1009");
        due(faultOf("x^0"), 2, "power 0");
        due(faultOf("x^1"), 2, "power 1");
        due(faultOf("x^6"), 2, "power 6");
        due(faultOf("x^22"), 3, "two digits in a power");
        due(faultOf("x^x"), 2, "x as power");
        due(faultOf("x^-2"), 2, "negative power");
        due(faultOf("xx"), 1, "x twice");
        due(faultOf("x2"), 1, "digit behind x");
        due(faultOf("x+x"), 2, "same power 1");
        due(faultOf("x+2x"), 3, "same power 1 with a number");
        due(faultOf("x^2+x^"), 5, "no power is left");
        due(faultOf("x^2+x^2"), 5, "same power 2");
        due(faultOf("x^3+x^3"), 6, "same power 3");
        due(faultOf("x^3+x^4"), 6, "rising power");
        due(faultOf("5+"), 1, "behind the number");
        due(faultOf("5-1"), 1, "two numbers");
        due(faultOf("x+5+"), 3, "behind a later number");
        due(faultOf("x++"), 2, "two signs");
        due(faultOf("--x"), 1, "two signs first");
        due(faultOf("x^2+^"), 4, "caret behind a sign");
        due(faultOf("^2"), 0, "caret first");
        due(faultOf("2^2"), 1, "caret behind a number");
        due(faultOf(" x"), 0, "blank first");
        due(faultOf("x "), 1, "blank");
        due(faultOf("X"), 0, "capital");
        due(faultOf("3*x"), 1, "asterisk");
        due(faultOf("1x+/"), 1, "only the first fault counts");
        PolyDesk x = new PolyDesk();
        type(x, "x^2+");
        due(x.fault() + x.fault() + x.count(6), 12, "nothing changes");
    }

    private static void desk() {
        section = "5 desk";
        PolyDesk x = new PolyDesk();
        due(x.desk(), STATE, "empty page");
        type(x, "spftm");
        due(x.desk(), STATE, "five letters");
        due(x.count(6), 5, "page stays");
        x.blank();
        type(x, "sq");
        due(x.desk(), STATE, "other letter");
        x.blank();
        type(x, "S");
        due(x.desk(), STATE, "capital");
        x.blank();
        type(x, "spft");
        due(x.desk(), 4, "four");
        due(x.count(6), 0, "page is empty");
        due(x.count(7), 1, "read once");
        for (int i = 0; i < 4; i++) {
            due(x.slot(i, 0), i, "kind " + i);
            due(x.slot(i, 1), NONE, "empty " + i);
        }
        putText(x, 0, "x+1");
        x.see(0, 2, true);
        type(x, "x");
        due(x.desk(), STATE, "not a desk");
        due(x.count(0) + x.count(1) + x.count(5), 6, "nothing changed");
        x.blank();
        type(x, "m");
        due(x.desk(), 1, "smaller desk");
        due(x.slot(0, 0), 4, "mirror");
        due(x.slot(1, 0), UNKNOWN, "slot is gone");
        due(x.count(1), 0, "all are empty");
        due(x.count(5), 0, "no observations");
        due(x.slot(0, 6), 31, "all are candidates");
        type(x, "sss");
        due(x.desk(), 3, "larger desk");
        due(x.slot(2, 1), NONE, "new slots are empty");
        due(x.count(7), 3, "read three times");
    }

    private static void put() {
        section = "6 put";
        PolyDesk x = deskOf("spft");
        due(putText(x, 0, "-6x^3+6x"), 3, "plain");
        due(written(x, 0), "-6x^3+6x", "plain");
        due(x.count(6), 0, "page is empty");
        due(putText(x, 1, "-6x^3+6x"), 3, "pure");
        due(written(x, 1), "x^3-x", "pure");
        due(putText(x, 2, "-4x^4+4x^3"), 2, "free");
        due(written(x, 2), "x^2-x", "free");
        due(putText(x, 3, "2x^5+3x^2"), 3, "turned");
        due(written(x, 3), "3x^3+2", "turned");
        due(putText(x, 3, "x^3-2x+5"), 3, "turned");
        due(written(x, 3), "5x^3-2x^2+1", "turned");
        due(putText(x, 1, "-7"), 0, "pure number");
        due(written(x, 1), "1", "pure number");
        due(putText(x, 2, "-7"), 0, "free number");
        due(written(x, 2), "1", "free number");
        x = deskOf("m");
        due(putText(x, 0, "-x^5+2x^4-3x^3+4x^2-5x+6"), 5, "mirror");
        due(written(x, 0), "x^5+2x^4+3x^3+4x^2+5x+6", "mirror");
        due(putText(x, 0, "-999x^5-999x^4-999x^3-999x^2-999x-999"), 5, "longest");

        due(putText(x, 1, "x"), UNKNOWN, "no such slot");
        due(x.put(-1), UNKNOWN, "negative slot");
        due(x.count(6), 1, "page stays");
        for (String text : List.of("", "-", "x^", "x+", "x^3-", "+x", "1x", "x^2+x^2", "s", "0", "1000")) {
            due(putText(x, 0, text), STATE, text);
        }
        due(putText(x, 1, "s"), UNKNOWN, "UNKNOWN before STATE");
        due(x.slot(0, 3), 36, "what it held stays");
        due(new PolyDesk().put(0), UNKNOWN, "no desk");

        // (x - 1)^2 * (..): without one x - 1 there are coefficients of 1000 or more.
        x = deskOf("fs");
        due(putText(x, 0, "125x^5+948x^4-876x^3-877x^2-35x+715"), FULL, "free beyond 999");
        due(x.slot(0, 1), NONE, "stays empty");
        due(x.count(6), 35, "page stays");
        due(x.put(1), 5, "plain has room");
        due(factors(x, 1), "2*1,-1 1*125,1198,1395,715", "factors beyond 999");
        due(x.move(1, 0, 0), FULL, "free beyond 999 from another slot");
    }

    private static void slot() {
        section = "7 slot";
        PolyDesk x = deskOf("mp");
        due(x.slot(0, 0), 4, "kind");
        due(x.slot(1, 0), 1, "kind");
        due(x.slot(0, 1), NONE, "degree of an empty slot");
        for (int what = 2; what <= 5; what++) {
            due(x.slot(0, what), 0, "empty " + what);
        }
        due(x.slot(0, 6), 31, "candidates of an empty slot");
        due(x.slot(2, 0), UNKNOWN, "no such slot");
        due(x.slot(-1, 0), UNKNOWN, "negative slot");
        due(x.slot(0, -1), OUTSIDE, "what -1");
        due(x.slot(0, 8), OUTSIDE, "what 8");
        due(x.slot(2, 8), UNKNOWN, "UNKNOWN before OUTSIDE");

        x = plain("-12x^4+24x^2-12", "7", "-7", "x^5");
        due(x.slot(0, 1), 4, "degree");
        due(x.slot(0, 2), 988, "negative content");
        due(x.slot(0, 3), 15, "length");
        due(x.slot(0, 4), 2, "factors");
        due(x.slot(0, 5), 4, "multiplicities");
        due(x.slot(1, 1), 0, "degree of a number");
        due(x.slot(1, 2), 1007, "content of a number");
        due(x.slot(2, 2), 993, "content of a negative number");
        due(x.slot(1, 4) + x.slot(1, 5), 0, "a number has no factors");
        due(x.slot(3, 4), 1, "x");
        due(x.slot(3, 5), 5, "x five times");
        due(x.slot(3, 3), 3, "x^5");
        x = plain("-999x^5-999x^4-999x^3-999x^2-999x-999", "999", "-999", "6x^2-10");
        due(x.slot(0, 2), 1, "content -999");
        due(x.slot(0, 3), 37, "longest text");
        due(x.slot(1, 2), 1999, "content 999");
        due(x.slot(2, 2), 1, "content of -999");
        due(x.slot(3, 2), 1002, "content 2");
    }

    private static void slotObservations() {
        section = "7 slot, observations";
        int[] sets = {6, 4, 30, 14};
        for (int what = 0; what < 4; what++) {
            PolyDesk x = deskOf("st");
            x.see(0, what, true);
            due(x.slot(0, 6), sets[what], "can " + what);
            due(x.slot(1, 6), 31, "the other slot");
            x.forget();
            x.see(0, what, false);
            due(x.slot(0, 6), 31 - sets[what], "cannot " + what);
        }
        PolyDesk x = deskOf("s");
        due(x.slot(0, 7), 0, "5 candidates: 0 leaves 3, as 3 does");
        x.see(0, 0, false);
        due(x.slot(0, 6), 25, "plain, turned, mirror");
        due(x.slot(0, 7), 2, "2 and 3 leave 2");
        x.see(0, 2, true);
        due(x.slot(0, 7), 3, "turned or mirror");
        x.see(0, 3, true);
        due(x.slot(0, 6), 8, "turned");
        due(x.slot(0, 7), 0, "one candidate: all leave 1");
        x.see(0, 0, true);
        due(x.slot(0, 6), 0, "none");
        due(x.slot(0, 7), NONE, "none");
        x.forget();
        x.see(0, 0, true);
        due(x.slot(0, 7), 1, "pure or free");
    }

    private static void as() {
        section = "8 as";
        PolyDesk x = deskOf("spft");
        int[] types = {1, 3, 7, 9};
        for (int slot = 0; slot < 4; slot++) {
            for (int kind = 0; kind < 5; kind++) {
                due(x.as(slot, kind), (types[slot] >> kind & 1) == 1 ? slot : NONE, "as(" + slot + ", " + kind + ")");
            }
        }
        x = deskOf("sm");
        due(x.as(1, 4), 1, "mirror");
        due(x.as(1, 0), 1, "mirror is plain");
        due(x.as(0, 4), NONE, "plain is no mirror");
        due(x.as(1, 3), NONE, "mirror is not turned");
        due(x.as(0, 5), OUTSIDE, "kind 5");
        due(x.as(0, -1), OUTSIDE, "kind -1");
        due(x.as(2, 0), UNKNOWN, "no such slot");
        due(x.as(2, 5), UNKNOWN, "UNKNOWN before OUTSIDE");
    }

    private static void number() {
        section = "9 number";
        PolyDesk x = plain("999x^5-999x^4+3x^2-1");
        int[] due = {999, 1000, 1003, 1000, 1, 1999};
        for (int power = 0; power <= 5; power++) {
            due(x.number(0, power), due[power], "power " + power);
        }
        due(x.number(0, 6), OUTSIDE, "power 6");
        due(x.number(0, -1), OUTSIDE, "power -1");
        due(x.number(1, 0), UNKNOWN, "empty");
        due(x.number(1, 6), UNKNOWN, "UNKNOWN before OUTSIDE");
        due(x.number(4, 0), UNKNOWN, "no such slot");
        due(x.number(-1, 0), UNKNOWN, "negative slot");
    }

    private static void text() {
        section = "10 text";
        for (String text : List.of("1", "-1", "x", "-x", "10x", "100x^2", "909", "x^5-x^4+x^3-x^2+x-1", "-11x^3+101x-10",
                "-999x^5-999x^4-999x^3-999x^2-999x-999", "x^2+1")) {
            PolyDesk x = plain(text);
            due(written(x, 0), text, "text");
            due(x.text(0, text.length()), UNKNOWN, "behind the end");
            due(x.text(0, -1), UNKNOWN, "before the start");
            due(x.slot(0, 3), text.length(), "length");
        }
        PolyDesk x = plain("x");
        due(x.text(1, 0), UNKNOWN, "empty");
        due(x.text(4, 0), UNKNOWN, "no such slot");
        due(x.text(0, Integer.MAX_VALUE), UNKNOWN, "most");
        due(x.text(0, Integer.MIN_VALUE), UNKNOWN, "least");
        type(x, "page");
        x.text(0, 0);
        due(x.count(6), 4, "the page stays");
    }

    private static void factor() {
        section = "11 factor";
        PolyDesk x = plain("-6x^4+12x^3-12x+6", "5");
        due(x.factor(0, 0, 0), 1, "degree");
        due(x.factor(0, 0, 1), 3, "multiplicity");
        due(x.factor(0, 0, 2), 99999, "power 0");
        due(x.factor(0, 1, 1), 1, "multiplicity");
        due(x.factor(0, 1, 3), 100001, "power 1");
        due(x.factor(0, 1, 7), 100000, "power 5");
        due(x.factor(0, 2, 0), UNKNOWN, "no such factor");
        due(x.factor(0, -1, 0), UNKNOWN, "negative factor");
        due(x.factor(0, 0, 8), OUTSIDE, "what 8");
        due(x.factor(0, 0, -1), OUTSIDE, "what -1");
        due(x.factor(0, 2, 8), UNKNOWN, "UNKNOWN before OUTSIDE");
        due(x.factor(1, 0, 0), UNKNOWN, "a number has no factors");
        due(x.factor(2, 0, 0), UNKNOWN, "empty");
        due(x.factor(4, 0, 0), UNKNOWN, "no such slot");
        due(factorsOf("x^5-x"), "1*1,-1 1*1,0 1*1,1 1*1,0,1", "order of the same degree");
        due(factorsOf("6x^4+5x^3-38x^2+5x+6"), "1*1,-2 1*1,3 1*2,-1 1*3,1", "greater leads come later");
        due(factorsOf("x^4+1"), "1*1,0,0,0,1", "irreducible");
        due(factorsOf("x^4+4"), "1*1,-2,2 1*1,2,2", "two of degree 2");
        due(factorsOf("x^4+2x^2+1"), "2*1,0,1", "one of degree 2 twice");
        due(factorsOf("4x^4+1"), "1*2,-2,1 1*2,2,1", "leads 2");
        due(factorsOf("x^5+x+1"), "1*1,1,1 1*1,-1,0,1", "degrees 2 and 3");
        due(factorsOf("x^5+x^4+2x^3+2x^2+x+1"), "1*1,1 2*1,0,1", "degree 1 and 2 twice");
        due(factorsOf("6x^5+4x^4+13x^3+17x^2+15x+25"), "1*3,2,5 1*2,0,1,5", "a quadratic with lead 3");
        due(factorsOf("x^5"), "5*1,0", "only x");
        due(factorsOf("-2x"), "1*1,0", "x with a content");
        due(factorsOf("999x^5-999"), "1*1,-1 1*1,1,1,1,1", "large content");
        due(factorsOf("36x^4-13x^2+1"), "1*2,-1 1*2,1 1*3,-1 1*3,1", "leads 2 and 3");
        due(factorsOf("840x^5+840"), "1*1,1 1*1,-1,1,-1,1", "many divisors");
        due(factorsOf("x^4-10x^2+1"), "1*1,0,-10,0,1", "splits modulo all primes");
        due(factorsOf("961x^2-1"), "1*31,-1 1*31,1", "square lead");
        due(factorsOf("x^2-961"), "1*1,-31 1*1,31", "square end");
        due(factorsOf("x^2-998x-999"), "1*1,-999 1*1,1", "root 999");
        due(factorsOf("999x^2+998x-1"), "1*1,1 1*999,-1", "lead 999");
    }

    /** All products of two factors of degree 2, or 2 and 3, with small coefficients are found again. */
    private static void factorKinds() {
        section = "11 factor, products";
        PolyDesk x = deskOf("ss");
        int wrong = 0;
        for (int code = 0; code < 5 * 5 * 5 * 5 * 5 * 5; code++) {
            int[] c = new int[6];
            for (int i = 0, left = code; i < 6; i++, left /= 5) {
                c[i] = left % 5 - 2;
            }
            String one = quadratic(c[0], c[1], c[2]);
            String other = quadratic(c[3], c[4], c[5]);
            if (one.isEmpty() || other.isEmpty()) {
                continue;
            }
            putText(x, 0, one);
            int sum = x.slot(0, 5);
            putText(x, 1, other);
            sum += x.slot(1, 5);
            x.times(0, 1, 0);
            wrong += x.slot(0, 5) == sum ? 0 : 1;
        }
        due(wrong, 0, "multiplicities of products");
    }

    private static String quadratic(int a, int b, int c) {
        if (a == 0) {
            return "";
        }
        StringBuilder result = new StringBuilder();
        int[] all = {c, b, a};
        for (int k = 2; k >= 0; k--) {
            if (all[k] != 0) {
                result.append(all[k] < 0 ? "-" : result.length() > 0 ? "+" : "");
                result.append(Math.abs(all[k]) == 1 && k > 0 ? "" : "" + Math.abs(all[k]));
                result.append(k == 2 ? "x^2" : k == 1 ? "x" : "");
            }
        }
        return result.toString();
    }

    private static void value() {
        section = "12 value";
        PolyDesk x = plain("999x^5-999", "x^3-2x+5", "-4");
        due(x.value(0, -9), -58990950L, "least");
        due(x.value(0, 9), 58988952L, "most");
        due(x.value(1, 0), 5, "at 0");
        due(x.value(1, 3), 26, "at 3");
        due(x.value(1, -3), -16, "at -3");
        due(x.value(2, 7), -4, "a number");
        due(x.value(0, 10), OUTSIDE, "10");
        due(x.value(0, -10), OUTSIDE, "-10");
        due(x.value(3, 0), UNKNOWN, "empty");
        due(x.value(3, 10), UNKNOWN, "UNKNOWN before OUTSIDE");
        due(x.value(4, 0), UNKNOWN, "no such slot");
    }

    private static void add() {
        section = "13 add";
        PolyDesk x = plain("x^3+2x-1", "-x^3+5", "500x", "-500x");
        due(x.add(0, 1, 3), 1, "degree falls");
        due(written(x, 3), "2x+4", "sum");
        due(x.add(0, 0, 0), 3, "same slot");
        due(written(x, 0), "2x^3+4x-2", "doubled");
        due(x.add(2, 2, 1), FULL, "1000");
        due(written(x, 1), "-x^3+5", "nothing changed");
        putText(x, 3, "-500x");
        due(x.add(3, 3, 1), FULL, "-1000");
        due(x.add(2, 3, 1), STATE, "0");
        putText(x, 3, "499x");
        due(x.add(2, 3, 3), 1, "999");
        due(written(x, 3), "999x", "999");
        due(x.add(4, 0, 0), UNKNOWN, "no such slot");
        due(x.add(0, 4, 0), UNKNOWN, "no such slot");
        due(x.add(0, 0, 4), UNKNOWN, "no such slot");
        x = deskOf("pm");
        putText(x, 0, "x+1");
        due(x.add(0, 1, 0), UNKNOWN, "other is empty");
        due(x.add(1, 0, 0), UNKNOWN, "one is empty");
        due(x.add(0, 0, 0), 1, "pure");
        due(written(x, 0), "x+1", "pure");
        due(x.add(0, 0, 1), 1, "into an empty one");
        due(written(x, 1), "-2x+2", "mirror");
        putText(x, 0, "500x+1");
        due(x.add(0, 0, 0), FULL, "the sum itself is beyond, although pure would have room");
    }

    private static void times() {
        section = "14 times";
        PolyDesk x = plain("x^2-x+2", "3x^3-4", "x^3", "999");
        due(x.times(0, 1, 3), 5, "degree 5");
        due(written(x, 3), "3x^5-3x^4+6x^3-4x^2+4x-8", "product");
        due(x.times(1, 2, 3), FULL, "degree 6");
        due(x.times(0, 0, 0), 4, "same slot");
        due(written(x, 0), "x^4-2x^3+5x^2-4x+4", "square");
        putText(x, 3, "333");
        putText(x, 0, "3x-3");
        due(x.times(0, 3, 1), 1, "999");
        putText(x, 0, "4x");
        due(x.times(0, 3, 1), FULL, "1332");
        putText(x, 0, "-4x");
        due(x.times(0, 3, 1), FULL, "-1332");
        due(written(x, 1), "999x-999", "nothing changed");
        due(x.times(4, 0, 0), UNKNOWN, "no such slot");
        due(x.times(0, 4, 0), UNKNOWN, "no such slot");
        due(x.times(0, 0, 4), UNKNOWN, "no such slot");
        due(x.times(2, 2, 4), UNKNOWN, "UNKNOWN before FULL");
        x = deskOf("sft");
        putText(x, 0, "2x^2-2");
        due(x.times(0, 2, 0), UNKNOWN, "empty");
        due(x.times(0, 0, 1), 2, "free");
        due(written(x, 1), "x^2-1", "free");
        putText(x, 0, "x^2+3x");
        due(x.times(0, 0, 2), 2, "turned");
        due(written(x, 2), "9x^2+6x+1", "turned");
        putText(x, 0, "32x");
        due(x.times(0, 0, 1), FULL, "the product itself is beyond, although free would have room");
    }

    private static void common() {
        section = "15 common";
        PolyDesk x = plain("12x^3-12x", "-18x^3+36x^2-18x", "5", "-10");
        due(x.common(0, 1, 3), 2, "degree");
        due(written(x, 3), "6x^2-6x", "with contents");
        due(x.common(1, 1, 3), 3, "of itself");
        due(written(x, 3), "18x^3-36x^2+18x", "positive");
        due(x.common(0, 2, 3), 0, "with a number");
        due(written(x, 3), "1", "1");
        putText(x, 3, "-10");
        due(x.common(2, 3, 0), 0, "of numbers");
        due(written(x, 0), "5", "5");
        putText(x, 0, "x^5-x");
        putText(x, 1, "x^5-x");
        putText(x, 0, "x^2-1");
        due(x.common(0, 1, 3), 2, "fewer factors than before");
        putText(x, 1, "x-1");
        due(x.common(0, 1, 3), 1, "fewer factors than before");
        due(written(x, 3), "x-1", "fewer factors than before");
        due(x.common(4, 0, 0), UNKNOWN, "no such slot");
        due(x.common(0, 4, 0), UNKNOWN, "no such slot");
        due(x.common(0, 0, 4), UNKNOWN, "no such slot");
        x = deskOf("sss");
        putText(x, 0, "x^5+2x^3+x");
        putText(x, 1, "x^4+2x^2+1");
        due(x.common(0, 2, 0), UNKNOWN, "empty");
        due(x.common(0, 1, 0), 4, "a factor of degree 2 twice");
        due(written(x, 0), "x^4+2x^2+1", "a factor of degree 2 twice");
        putText(x, 0, "x^5+x^3");
        due(x.common(0, 1, 2), 2, "the smaller multiplicity");
        due(written(x, 2), "x^2+1", "the smaller multiplicity");
        // Times x^2-2x+1 and x^2-2x+2 the common divisor 601x^3+1101x^2+901x+451 is within 999, itself it is not.
        x = plain("601x^5-101x^4-700x^3-250x^2-x+451", "601x^5-101x^4-99x^3+851x^2+900x+902");
        due(factors(x, 0), "2*1,-1 1*601,1101,901,451", "first");
        due(factors(x, 1), "1*1,-2,2 1*601,1101,901,451", "second");
        due(x.common(0, 1, 2), FULL, "beyond 999");
        due(x.slot(2, 1), NONE, "nothing changed");
    }

    private static void slope() {
        section = "16 slope";
        PolyDesk x = plain("x^5-2x^4+3x^3-4x^2+5x-6", "5", "200x^5", "-500x^2");
        due(x.slope(0, 0), 4, "degree");
        due(written(x, 0), "5x^4-8x^3+9x^2-8x+5", "derivative");
        due(x.slope(1, 0), STATE, "a number");
        due(x.slope(2, 0), FULL, "1000");
        due(x.slope(3, 0), FULL, "-1000");
        due(written(x, 0), "5x^4-8x^3+9x^2-8x+5", "nothing changed");
        putText(x, 2, "333x^3-x");
        due(x.slope(2, 3), 2, "999");
        due(written(x, 3), "999x^2-1", "999");
        due(x.slope(4, 0), UNKNOWN, "no such slot");
        due(x.slope(1, 4), UNKNOWN, "UNKNOWN before STATE");
        x = deskOf("sptm");
        putText(x, 0, "4x^3+4x");
        due(x.slope(1, 0), UNKNOWN, "empty");
        due(x.slope(0, 1), 2, "pure");
        due(written(x, 1), "3x^2+1", "pure");
        due(x.slope(0, 2), 2, "turned");
        due(written(x, 2), "4x^2+12", "turned");
        putText(x, 0, "500x^2");
        due(x.slope(0, 1), FULL, "the derivative itself is beyond, although pure would have room");
    }

    private static void move() {
        section = "17 move";
        PolyDesk x = plain("x^5", "2x^2-3x+1", "7", "999x");
        due(x.move(0, 1, 0), 5, "by 1");
        due(written(x, 0), "x^5+5x^4+10x^3+10x^2+5x+1", "by 1");
        due(x.move(0, -1, 0), 5, "back");
        due(written(x, 0), "x^5", "back");
        due(x.move(1, -9, 0), 2, "by -9");
        due(written(x, 0), "2x^2-39x+190", "by -9");
        due(x.move(1, 9, 0), 2, "by 9");
        due(written(x, 0), "2x^2+33x+136", "by 9");
        due(x.move(1, 0, 0), 2, "by 0");
        due(written(x, 0), "2x^2-3x+1", "by 0");
        due(x.move(2, 5, 2), 0, "a number");
        due(x.move(3, 1, 3), 1, "999");
        due(x.move(3, 1, 3), FULL, "beyond 999");
        due(x.move(3, -9, 3), FULL, "beyond -999");
        due(written(x, 3), "999x+999", "nothing changed");
        due(x.move(3, 10, 3), OUTSIDE, "by 10");
        due(x.move(3, -10, 3), OUTSIDE, "by -10");
        due(x.move(4, 10, 0), UNKNOWN, "UNKNOWN before OUTSIDE");
        due(x.move(0, 1, 4), UNKNOWN, "no such slot");
        x = deskOf("spf");
        due(x.move(0, 1, 0), UNKNOWN, "empty");
        putText(x, 0, "-2x^2");
        due(x.move(0, -1, 1), 2, "pure");
        due(written(x, 1), "x^2-2x+1", "pure");
        due(x.move(0, -1, 2), 1, "free");
        due(written(x, 2), "x-1", "free");
        putText(x, 0, "333x^2");
        due(x.move(0, 2, 1), FULL, "the polynomial itself is beyond, although pure would have room");
    }

    private static void be() {
        section = "18 be";
        PolyDesk x = deskOf("sm");
        putText(x, 0, "-4x^2+4x");
        due(x.be(0, 2), 0, "was plain");
        due(written(x, 0), "-4x^2+4x", "what it holds stays");
        due(x.slot(0, 0), 2, "kind");
        due(x.be(0, 4), 2, "was free");
        due(x.be(0, 1), 4, "was mirror");
        due(x.be(0, 1), 1, "the same");
        due(x.add(0, 0, 0), 2, "the new kind counts");
        due(written(x, 0), "x^2-x", "the new kind counts");
        due(x.be(1, 0), 4, "an empty slot");
        due(x.slot(1, 1), NONE, "stays empty");
        due(x.be(0, 5), OUTSIDE, "kind 5");
        due(x.be(0, -1), OUTSIDE, "kind -1");
        due(x.be(2, 0), UNKNOWN, "no such slot");
        due(x.be(2, 5), UNKNOWN, "UNKNOWN before OUTSIDE");
        due(x.slot(0, 0), 1, "nothing changed");
        x.see(0, 1, true);
        x.be(0, 3);
        due(x.slot(0, 6), 4, "observations stay");
    }

    private static void parts() {
        section = "19 parts";
        PolyDesk x = plain("x^5-x", "x^4+x+1", "6x^2+1", "5");
        due(x.parts(0, 2, 0), NONE, "not good for 2");
        due(x.parts(0, 5, 0), 5, "number of parts");
        due(x.parts(0, 5, 1), 11111, "degrees");
        due(x.parts(0, 3, 1), 1112, "ascending");
        due(x.parts(1, 2, 0), 1, "irreducible");
        due(x.parts(1, 2, 1), 4, "irreducible");
        due(x.parts(2, 2, 0), NONE, "lead is divisible by 2");
        due(x.parts(2, 3, 1), NONE, "lead is divisible by 3");
        due(x.parts(2, 7, 1), 11, "good for 7");
        due(x.parts(2, 5, 1), 11, "good for 5");
        due(x.parts(2, 13, 1), 2, "good for 13");
        due(x.parts(3, 2, 0), NONE, "degree 0");
        for (int wrong : new int[] {-2, 0, 1, 4, 6, 9, 12, 14, 17, Integer.MAX_VALUE}) {
            due(x.parts(0, wrong, 0), OUTSIDE, "prime " + wrong);
        }
        due(x.parts(0, 5, 2), OUTSIDE, "what 2");
        due(x.parts(0, 5, -1), OUTSIDE, "what -1");
        due(x.parts(3, 4, 0), OUTSIDE, "OUTSIDE before NONE");
        due(x.parts(4, 4, 0), UNKNOWN, "UNKNOWN before OUTSIDE");
        due(deskOf("s").parts(0, 2, 0), UNKNOWN, "empty");
        x = plain("x^5+x+1", "x^4+x^2+1", "x^5+x^2+1", "x^4+2x^3+3x^2+2x+1");
        due(x.parts(0, 2, 1), 23, "2 and 3");
        due(x.parts(1, 2, 1), NONE, "a square of degree 2");
        due(x.parts(2, 2, 1), 5, "degree 5");
        due(x.parts(3, 5, 1), NONE, "a square of degree 2 in the integers");
        due(x.parts(2, 2, 0), 1, "one of degree 5");
        due(x.parts(2, 2, 0), 1, "one of degree 5 again");
        x = plain("x^4+1", "7x^3+7", "13x+1", "x");
        due(x.parts(0, 11, 1), 22, "modulo 11");
        due(x.parts(1, 11, 1), 12, "modulo 11");
        due(x.parts(0, 7, 1), 22, "modulo 7");
        due(x.parts(0, 13, 1), 22, "modulo 13");
        due(x.parts(0, 3, 1), 22, "two of degree 2");
        due(x.parts(0, 17, 1), OUTSIDE, "17 is too large");
        due(x.parts(1, 7, 0), NONE, "content is divisible by 7");
        due(x.parts(1, 2, 1), 12, "with a content");
        due(x.parts(2, 13, 0), NONE, "lead is divisible by 13");
        due(x.parts(3, 13, 1), 1, "x");
    }

    private static void degrees() {
        section = "20 degrees";
        PolyDesk x = plain("x^4+1", "x^4+x+1", "5", "x^5-x");
        due(x.degrees(0), 0b10101, "x^4+1");
        due(x.degrees(1), 0b10001, "irreducible");
        due(x.degrees(2), 1, "a number");
        due(x.degrees(3), 0b111111, "all");
        due(x.degrees(4), UNKNOWN, "no such slot");
        due(x.degrees(-1), UNKNOWN, "negative slot");
        x = plain("x^5+x^2+1", "x^5-x-1");
        due(x.degrees(0), 0b100001, "irreducible of degree 5");
        due(x.degrees(1), 0b100001, "irreducible of degree 5");
        x = plain("x", "x^5+x+1", "900x^2");
        due(x.degrees(0), 3, "degree 1");
        due(x.degrees(1), 0b101101, "2 and 3");
        due(x.degrees(2), 7, "good for none: all degrees");
        due(x.degrees(3), UNKNOWN, "empty");
    }

    private static void see() {
        section = "21 see";
        PolyDesk x = deskOf("sp");
        due(x.see(2, 0, true), UNKNOWN, "no such slot");
        due(x.see(0, 4, true), OUTSIDE, "what 4");
        due(x.see(0, -1, true), OUTSIDE, "what -1");
        due(x.see(2, 4, true), UNKNOWN, "UNKNOWN before OUTSIDE");
        for (int i = 1; i <= 6; i++) {
            due(x.see(i % 2, i % 4, i % 3 == 0), i, "observation " + i);
        }
        due(x.see(0, 0, true), FULL, "seventh");
        due(x.see(0, 4, true), OUTSIDE, "OUTSIDE before FULL");
        due(x.count(5), 6, "six");
        due(new PolyDesk().see(0, 0, true), UNKNOWN, "no desk");
        x = deskOf("sp");
        x.see(0, 1, false);
        x.see(0, 0, true);
        due(x.slot(0, 6), 2, "both count");
        due(x.slot(1, 6), 31, "not for the other slot");
    }

    private static void forget() {
        section = "22 forget";
        PolyDesk x = deskOf("s");
        due(x.forget(), 0, "none");
        x.see(0, 0, true);
        x.see(0, 0, false);
        due(x.slot(0, 6), 0, "no candidates");
        due(x.forget(), 2, "two");
        due(x.slot(0, 6), 31, "all candidates");
        due(x.forget(), 0, "again");
        due(x.see(0, 0, true), 1, "room again");
    }

    private static void drawn() {
        section = "23 drawn";
        PolyDesk x = new PolyDesk();
        due(x.drawn(1, 7, 0), 1, "one");
        due(x.drawn(4, 77, 0), 3, "irreducible ones");
        due(x.drawn(4, 77, 1), 5, "multiplicities");
        due(x.drawn(4, 77, 2), 454989501, "x");
        due(x.drawn(1, Integer.MAX_VALUE, 2), 1751031067, "greatest seed");
        due(x.drawn(1, 0, 2), afterDraws(0, 4), "seed 0");
        due(x.drawn(3, 5, 2), afterDraws(5, 12), "12 draws");
        due(x.drawn(0, 1, 0), OUTSIDE, "times 0");
        due(x.drawn(5, 1, 0), OUTSIDE, "times 5");
        due(x.drawn(1, -1, 0), OUTSIDE, "seed -1");
        due(x.drawn(1, Integer.MIN_VALUE, 0), OUTSIDE, "least seed");
        due(x.drawn(1, 1, 3), OUTSIDE, "what 3");
        due(x.drawn(1, 1, -1), OUTSIDE, "what -1");
        due(x.count(7), 0, "nothing changed");
        x = plain("x^4-1");
        long before = x.digest();
        x.drawn(4, 99, 1);
        due(x.digest(), before, "nothing changed");
        due(factors(x, 0), "1*1,-1 1*1,1 1*1,0,1", "nothing changed");
        x = plain("x^5+x^4");
        due(x.drawn(4, 77, 0), 3, "behind a polynomial of degree 5");
        due(x.drawn(4, 77, 1), 5, "behind a polynomial of degree 5");
        due(x.drawn(2, 9, 0), 2, "two irreducible ones");
    }

    private static long afterDraws(long seed, int draws) {
        long x = seed;
        for (int i = 0; i < draws; i++) {
            x = (1103515245L * x + 12345L) % (1L << 31);
        }
        return x;
    }

    private static void image() {
        section = "24 image";
        PolyDesk x = new PolyDesk();
        due(x.image(), STATE, "no desk");
        x = deskOf("sp");
        due(x.image(), 0, "all are empty");
        putText(x, 1, "x");
        due(x.image(), 1, "one is filled");
        putText(x, 0, "x");
        due(x.restore(), 1, "the later image counts");
        due(x.slot(0, 1), NONE, "empty again");
        due(x.slot(1, 1), 1, "filled");
    }

    private static void restore() {
        section = "25 restore";
        PolyDesk x = deskOf("sf");
        due(x.restore(), STATE, "no image");
        putText(x, 0, "-6x^2+6");
        x.see(0, 0, true);
        x.see(1, 1, false);
        x.image();
        long before = x.digest();
        x.be(0, 4);
        x.be(1, 3);
        x.add(0, 0, 0);
        x.add(0, 0, 1);
        x.see(0, 3, false);
        due(x.restore(), 1, "one is filled");
        due(x.digest(), before, "all is as before");
        due(factors(x, 0), "1*1,-1 1*1,1", "factors");
        putText(x, 0, "x^3");
        due(x.slot(0, 5), 3, "changed");
        x.forget();
        due(x.restore(), 1, "the image stays saved");
        due(x.slot(0, 5), 2, "restored again");
        due(x.count(5), 2, "observations");
        due(x.slot(0, 6), 6, "candidates");
        putText(x, 0, "2x+3");
        x.forget();
        x.see(1, 1, true);
        x.see(0, 2, false);
        due(x.restore(), 1, "other observations");
        due(x.slot(0, 6), 6, "candidates");
        due(x.slot(1, 6), 27, "candidates");
        due(factors(x, 0), "1*1,-1 1*1,1", "factors");
        type(x, "abc");
        due(x.restore(), 1, "with a page");
        due(x.count(6), 3, "the page stays");
        x.blank();
        type(x, "sf");
        x.desk();
        due(x.restore(), STATE, "another desk, even from the same text");
        due(x.image(), 0, "a new image");
        due(x.restore(), 0, "can be restored");
        type(x, "sx");
        x.desk();
        due(x.restore(), 0, "a desk that could not be read does not count");
    }

    private static void count() {
        section = "26 count";
        PolyDesk x = deskOf("ssss");
        putText(x, 0, "x^4+1");
        putText(x, 1, "2x+2");
        putText(x, 2, "-x+1");
        type(x, "hello");
        x.see(0, 0, true);
        int[] due = {4, 3, 1, 6, 13, 1, 5, 1};
        for (int what = 0; what < 8; what++) {
            due(x.count(what), due[what], "count " + what);
        }
        due(x.count(8), OUTSIDE, "what 8");
        due(x.count(-1), OUTSIDE, "what -1");
        x.blank();
        putText(x, 3, "x^2+2x+1");
        due(x.count(2), 1, "a square is not irreducible");
        putText(x, 3, "1");
        due(x.count(2), 1, "1 is not irreducible");
        putText(x, 3, "x");
        due(x.count(2), 2, "x is");
    }

    private static void digest() {
        section = "27 digest";
        long h = 1409;
        for (int i = 0; i < 8; i++) {
            h *= 31;
        }
        due(new PolyDesk().digest(), h, "a new object");
        PolyDesk x = deskOf("sfm");
        putText(x, 0, "-6x^5+6x");
        x.add(0, 0, 1);
        x.see(2, 1, false);
        type(x, "~ page");
        due(x.digest(), digestByWords(x, "~ page"), "three slots");
        due(x.digest(), x.digest(), "nothing changes");
        x.be(2, 0);
        due(x.digest(), digestByWords(x, "~ page"), "another kind");
    }

    /** Wrong calls of all kinds leave the digest as it was. */
    private static void errorsInOrder() {
        section = "errors";
        PolyDesk x = plain("999x^5", "5");
        type(x, "x^");
        long before = x.digest();
        for (int wrong : new int[] {-1, 4, Integer.MIN_VALUE, Integer.MAX_VALUE}) {
            due(x.put(wrong), UNKNOWN, "put");
            due(x.slot(wrong, 9), UNKNOWN, "slot");
            due(x.as(wrong, 9), UNKNOWN, "as");
            due(x.number(wrong, 9), UNKNOWN, "number");
            due(x.text(wrong, 0), UNKNOWN, "text");
            due(x.factor(wrong, 0, 9), UNKNOWN, "factor");
            due(x.value(wrong, 99), UNKNOWN, "value");
            due(x.add(0, 0, wrong), UNKNOWN, "add");
            due(x.times(0, 0, wrong), UNKNOWN, "times");
            due(x.common(wrong, 0, 0), UNKNOWN, "common");
            due(x.slope(0, wrong), UNKNOWN, "slope");
            due(x.move(wrong, 99, 0), UNKNOWN, "move");
            due(x.be(wrong, 9), UNKNOWN, "be");
            due(x.parts(wrong, 1, 9), UNKNOWN, "parts");
            due(x.degrees(wrong), UNKNOWN, "degrees");
            due(x.see(wrong, 9, true), UNKNOWN, "see");
        }
        due(x.put(0), STATE, "put");
        due(x.desk(), STATE, "desk");
        due(x.add(0, 0, 2), FULL, "add");
        due(x.times(0, 0, 2), FULL, "times");
        due(x.slope(0, 2), FULL, "slope");
        due(x.move(0, 1, 2), FULL, "move");
        due(x.restore(), STATE, "restore");
        due(x.digest(), before, "nothing changed");
        due(PolyDesk.NONE, -1, "NONE");
        due(PolyDesk.UNKNOWN, -101, "UNKNOWN");
        due(PolyDesk.OUTSIDE, -102, "OUTSIDE");
        due(PolyDesk.STATE, -103, "STATE");
        due(PolyDesk.FULL, -104, "FULL");
    }
}
