import java.util.ArrayList;
import java.util.Arrays;
import java.util.List;
import java.util.Random;
import java.util.Set;
import java.util.TreeSet;
import java.util.function.IntUnaryOperator;

/**
 * Each sentence of the document that names a boundary case has a test of its own here: the value just
 * inside, the value just outside, and the least and the greatest int where an argument is an int.
 * A test begins with the number of its promise and the document's words. No object gets more than 512 calls.
 */
public final class BoundaryTests {
    private static final int NONE = -1;
    private static final int SPENT = -2;
    private static final int NO_WORTH = -2000000000;
    private static final int LEAST = Integer.MIN_VALUE;
    private static final int GREATEST = Integer.MAX_VALUE;
    private static final String ELEVEN = "1234+5678=9";

    private static final Set<Integer> promises = new TreeSet<>();
    private static int sentences = 0;
    private static int wrong = 0;
    private static String about = "";

    public static void main(String[] args) {
        tapeTests();
        formsTests();
        sumTests();
        goalTests();
        wantedTests();
        faultTests();
        cellTests();
        worthTests();
        mendTests();
        shapeTests();
        pathTests();
        puzzleTests();
        turnedTests();
        seenTests();
        couldTests();
        nextTests();
        numeralTests();
        takingTests();
        actTests();
        boxTests();
        aboutTests();
        anyArguments();
        for (int p = 1; p <= 41; p++) {
            due("promise " + p + " has a test", promises.contains(p) ? 1 : 0, 1);
        }
        System.out.println(wrong == 0 ? "all " + sentences + " sentences hold" : wrong + " answers are not as due");
        if (wrong != 0) {
            System.exit(1);
        }
    }

    // how tests are told

    private static void sentence(int promise, String words) {
        promises.add(promise);
        sentences++;
        about = "promise " + promise + ", '" + words + "'";
    }

    private static void due(String call, long got, long want) {
        if (got != want) {
            wrong++;
            System.out.println(about + ": " + call + " answered " + got + ", due is " + want);
        }
    }

    private static void due(String call, boolean got, boolean want) {
        due(call, got ? 1 : 0, want ? 1 : 0);
    }

    private static void due(String call, String got, String want) {
        if (!got.equals(want)) {
            wrong++;
            System.out.println(about + ": " + call + " answered '" + got + "', due is '" + want + "'");
        }
    }

    /** A call answers the same for each of these arguments. */
    private static void each(String call, IntUnaryOperator of, int want, int... arguments) {
        for (int a : arguments) {
            due(call + " " + a, of.applyAsInt(a), want);
        }
    }

    private static int as(boolean b) {
        return b ? 1 : 0;
    }

    private static void write(StickSums x, String text) {
        x.end(0);
        for (int from = 0; from < text.length(); from += 20) {
            int[] five = new int[5];
            for (int i = 0; i < 20; i++) {
                five[i / 4] = five[i / 4] << 8 | (from + i < text.length() ? text.charAt(from + i) : 0);
            }
            x.feed(five[0], five[1], five[2], five[3], five[4]);
        }
        x.end(text.length());
    }

    private static int forms(StickSums x, String text) {
        write(x, text);
        return x.forms();
    }

    private static int lay(StickSums x, String text) {
        write(x, text);
        return x.lay();
    }

    private static int goal(StickSums x, String text) {
        write(x, text);
        return x.goal();
    }

    private static int want(StickSums x, String text) {
        write(x, text);
        return x.wanted();
    }

    private static StickSums laid(String text) {
        StickSums x = new StickSums();
        lay(x, text);
        return x;
    }

    private static StickSums told(String forms, String text) {
        StickSums x = new StickSums();
        forms(x, forms);
        lay(x, text);
        return x;
    }

    private static String filled(String text, int bytes) {
        return text + " ".repeat(bytes - text.length());
    }

    private static String read(StickSums x, IntUnaryOperator at) {
        StringBuilder b = new StringBuilder();
        for (int c = 0; c < x.about(0); c++) {
            int r = at.applyAsInt(c);
            b.append(r == NONE ? '.' : (char) r);
        }
        return b.toString();
    }

    private static String row(StickSums x) {
        return read(x, x::says);
    }

    /** All that calls without a search show of an object. */
    private static String state(StickSums x) {
        StringBuilder b = new StringBuilder();
        for (int what = 0; what <= 7; what++) {
            b.append(x.about(what)).append(' ');
        }
        for (int c = 0; c <= 11; c++) {
            b.append(x.cell(c)).append(',');
        }
        for (int d = 0; d < 10; d++) {
            b.append(x.way(d, 0)).append('/').append(x.way(d, 1)).append(' ');
        }
        return b.append(x.fault(0)).append(' ').append(x.fault(1)).toString();
    }

    /** An object with something of all that can be changed. */
    private static StickSums busy() {
        StickSums x = new StickSums();
        forms(x, "digit 7 as 39 or 7;");
        lay(x, "12=12");
        x.keep(1);
        lay(x, "6+4=4");
        goal(x, "8-4=4");
        want(x, "left>0");
        x.stick(0, 6, false);
        x.stick(0, 1, true);
        x.undo();
        x.later(3);
        x.seen(0, 0, true);
        return x;
    }

    // promises 1 to 3

    private static void tapeTests() {
        sentence(1, "No CELLS, no GOAL; FORMS as at first.");
        StickSums n = new StickSums();
        due("state", state(n), "0 0 0 0 0 0 0 0 -1,-1,-1,-1,-1,-1,-1,-1,-1,-1,-1,-1,"
            + "63/-1 6/-1 91/-1 79/-1 102/-1 109/-1 125/-1 7/-1 127/-1 111/-1 0 -1");
        busy();
        due("objects have nothing in common", state(new StickSums()), state(n));

        sentence(2, "Twenty bytes come behind those on the TAPE, of each number the highest first");
        StickSums x = new StickSums();
        due("feed", x.feed(0x31322b33, 0x342b3520, 0x3d202020, 0x20203520, 0x20202031), 20);
        due("lay", x.lay(), 10);
        due("row", row(x), "12+34+5=51");
        x.feed(0x313d3939, 0, 0, 0, 0);
        x.end(2);
        x.feed(0x32323d3d, 0, 0, 0, 0);
        x.end(4);
        due("behind those", x.lay(), 4);
        due("behind those", row(x), "1=22");

        sentence(2, "of each number the highest first (the least and the greatest int)");
        int[] ends = {LEAST, GREATEST, -1, 0};
        for (int end : ends) {
            x.feed(0x20202020, end, end, end, end);
            x.lay();
            due("FAULT of " + end, x.fault(0), 1);
            due("place of " + end, x.fault(1), 4);
        }
        x.feed(0x0a0a0a0a, 0x20202020, 0x0a20310a, 0x3d200a31, LEAST);
        due("20 on the TAPE", x.about(5), 20);
        x.lay();
        due("FAULT of the byte 128", x.fault(0) * 100 + x.fault(1), 116);

        sentence(2, "NONE, and nothing comes, if there would be more than 300.");
        StickSums y = new StickSums();
        for (int i = 1; i <= 15; i++) {
            due("feed to " + 20 * i, y.feed(0x313d3120, 0, 0, 0, 0), 20 * i);
        }
        due("300 and 20", y.feed(0x323d3220, 0, 0, 0, 0), NONE);
        due("bytes", y.about(5), 300);
        y.end(281);
        due("281 and 20", y.feed(0x323d3220, 0, 0, 0, 0), NONE);
        due("bytes", y.about(5), 281);
        y.end(280);
        due("280 and 20", y.feed(0x323d3220, 0, 0, 0, 0), 300);
        due("end", y.end(3), 3);
        y.lay();
        due("the first bytes are the old ones", row(y), "1=1");
        for (int i = 1; i <= 15; i++) {
            y.feed(0x313d3120, 0x20202020, 0x20202020, 0x20202020, 0x20202020);
        }
        y.feed(0x39202020, 0x20202020, 0x20202020, 0x20202020, 0x20202020);
        due("FORMS of 300 bytes, none of the refused", y.forms() * 10000 + y.fault(0) * 1000 + y.fault(1), -8000);

        sentence(3, "The TAPE has its first n bytes: n");
        write(y, "1=1  ");
        due("as many as there are", y.end(5), 5);
        due("one less", y.end(4), 4);
        due("end 3", y.end(3), 3);
        due("row", y.lay(), 3);
        y.feed(0, 0, 0, 0, 0);
        due("none", y.end(0), 0);
        due("bytes", y.about(5), 0);

        sentence(3, "NONE, doing nothing, if it has not so many, or n is below 0.");
        each("end of an empty TAPE", y::end, NONE, 1, -1, LEAST, GREATEST);
        due("end 0 of an empty TAPE", y.end(0), 0);
        write(y, "1=1");
        each("end of three", y::end, NONE, 4, 20, 300, 301, -1, LEAST, GREATEST);
        due("bytes", y.about(5), 3);
        due("row", y.lay(), 3);
    }

    // promise 4, FORMS

    private static void goodForms(String text, int lines) {
        StickSums x = busy();
        due("forms '" + text + "'", forms(x, text), lines);
        due("FAULT", x.fault(0), 0);
        due("place", x.fault(1), NONE);
    }

    private static void badForms(String text, int fault, int place) {
        StickSums x = busy();
        due("forms '" + text + "'", forms(x, text), NONE);
        due("FAULT of '" + text + "'", x.fault(0), fault);
        due("place of '" + text + "'", x.fault(1), place);
        due("bytes", x.about(5), 0);
        due("way 7 0", x.way(7, 0), 39);
    }

    private static void formsTests() {
        formsAllStays();
        formsNumbers();
        formsTokens();
        formsFaultOrder();
    }

    private static void formsAllStays() {
        sentence(4, "The TAPE (empty then) is FORMS: how many lines");
        goodForms("", 0);
        goodForms(" \n ", 0);
        goodForms("digit 1 as 2;", 1);
        StringBuilder ten = new StringBuilder();
        for (int d = 0; d < 10; d++) {
            ten.append("digit ").append(d).append(" as ").append(2 * d + 1).append(" or ").append(2 * d + 2).append(';');
        }
        goodForms(ten.toString(), 10);
        badForms(ten + "digit 0 as 50;", 3, ten.length() + 6);
        StickSums x = new StickSums();
        forms(x, ten.toString());
        due("way 9 1", x.way(9, 1), 20);
        due("bytes", x.about(5), 0);

        sentence(4, "FORMS are a text of at most 300 bytes");
        goodForms(filled("digit 1 as 2;", 300), 1);
        goodForms(" ".repeat(287) + "digit 1 as 2;", 1);
        badForms(" ".repeat(288) + "digit 1 as 2", 2, 300);
        badForms(filled("digit 7 as 127;", 300), 5, 300);

        sentence(4, "THE ROW and THE GOAL have no CELLS then, SEEN are none, BOXES are empty");
        StickSums y = busy();
        y.keep(0);
        y.keep(2);
        due("forms", forms(y, ""), 0);
        due("state", state(y), "0 0 0 0 3 0 0 2 -1,-1,-1,-1,-1,-1,-1,-1,-1,-1,-1,-1,"
            + "63/-1 6/-1 91/-1 79/-1 102/-1 109/-1 125/-1 7/-1 127/-1 111/-1 0 -1");
        each("back", y::back, NONE, 0, 1, 2);
        due("undo", y.undo(), false);
        due("redo", y.redo(), false);
        due("untell", y.untell(0), false);

        sentence(4, "NONE: a FAULT (all stays)");
        StickSums z = busy();
        String before = state(z).replaceAll(" 0 -1$", "");
        due("forms", forms(z, "digit 7 as 7;digit 8 as 0;"), NONE);
        due("state", state(z), before + " 4 24");
        due("redo", z.redo(), true);
        due("untell", z.untell(0), true);
        due("back", z.back(1), 5);
        due("row", row(z), "12=12");

        sentence(4, "Digits that are not told have theirs as at first.");
        StickSums w = new StickSums();
        due("8 as 1", forms(w, "digit 8 as 1;"), 1);
        due("7 as that of 8 at first", forms(w, "digit 7 as 127;"), NONE);
        due("FAULT", w.fault(0) * 100 + w.fault(1), 515);
        due("7 as that of 8 in FORMS before", forms(w, "digit 7 as 1;"), 1);
        due("8", w.way(8, 0), 127);
        forms(w, "digit 0 as 1 or 2;digit 9 as 3 or 4;");
        forms(w, "");
        due("0 and 9", w.way(0, 0) * 1000 + w.way(9, 0), 63111);
        due("0 and 9", w.way(0, 1) + w.way(9, 1), -2);
    }

    private static void formsNumbers() {
        sentence(4, "A digit 0 .. 9");
        goodForms("digit 0 as 1;", 1);
        goodForms("digit 9 as 1;", 1);
        badForms("digit 10 as 1;", 4, 6);
        badForms("digit 9999 as 1;", 4, 6);

        sentence(4, "each told once");
        badForms("digit 0 as 1;digit 0 as 2;", 3, 19);
        badForms("digit 9 as 1 or 2;digit 0009 as 3;", 3, 24);
        badForms("digit 1 as 1;digit 2 as 2;digit 1 as 3;", 3, 32);

        sentence(4, "the one or both of WAYS 1 .. 127");
        goodForms("digit 8 as 127 or 1;", 1);
        goodForms("digit 8 as 1 or 127;", 1);
        badForms("digit 8 as 0;", 4, 11);
        badForms("digit 8 as 128;", 4, 11);
        badForms("digit 8 as 1 or 0;", 4, 16);
        badForms("digit 8 as 1 or 128;", 4, 16);
        badForms("digit 8 as 9999;", 4, 11);
        badForms("digit 8 as 1 or 2 or 3;", 2, 18);
        badForms("digit 8 as;", 2, 10);
        badForms("digit 8 as 1 or;", 2, 15);

        sentence(4, "3 a digit told already, or a WAY told already");
        badForms("digit 8 as 1 or 1;", 3, 16);
        badForms("digit 8 as 1;digit 7 as 1;", 3, 24);
        badForms("digit 0 as 1;digit 9 as 1;", 3, 24);
        badForms("digit 9 as 2 or 1;digit 0 as 1;", 3, 29);
        badForms("digit 8 as 1;digit 7 as 2 or 1;", 3, 29);
        badForms("digit 8 as 1 or 2;digit 7 as 2;", 3, 29);
        goodForms("digit 8 as 1 or 2;digit 7 as 3 or 4;", 2);

        sentence(4, "5 (at the end) a WAY that is told is also that of a digit that is not");
        badForms("digit 7 as 127;", 5, 15);
        badForms("digit 7 as 1 or 127;\n", 5, 21);
        badForms("digit 1 as 63;", 5, 14);
        badForms("digit 0 as 111;", 5, 15);
        goodForms("digit 7 as 7 or 1;", 1);
        goodForms("digit 7 as 127;digit 8 as 7;", 2);
        goodForms("digit 8 as 7;digit 7 as 127;", 2);
        badForms("digit 7 as 127;digit 8 as 6;", 5, 28);
    }

    private static void formsTokens() {
        sentence(4, "words (a .. z, 8 at most)");
        badForms("a", 2, 0);
        badForms("z", 2, 0);
        badForms("abcdefgh", 2, 0);
        badForms("abcdefghi", 1, 0);
        badForms("digitdig", 2, 0);
        badForms("digitdigit", 1, 0);
        badForms("bigit 1 as 2;", 2, 0);
        badForms("digiu 1 as 2;", 2, 0);
        badForms("digit 1 is 2;", 2, 8);
        badForms("digit 1 as 2 er 3;", 2, 13);
        badForms("`", 1, 0);
        badForms("{", 1, 0);
        badForms("A", 1, 0);
        badForms("Z", 1, 0);

        sentence(4, "N (1 to 4 digits)");
        goodForms("digit 0001 as 0002;", 1);
        goodForms("digit 8 as 0127 or 012;", 1);
        badForms("digit 00001 as 2;", 1, 6);
        badForms("digit 1 as 00002;", 1, 11);
        badForms("digit 1 as 4294967298;", 1, 11);
        badForms("digit / as 2;", 1, 6);
        badForms("digit : as 2;", 1, 6);

        sentence(4, "sign ;");
        badForms("digit 1 as 2:", 1, 12);
        badForms("digit 1 as 2<", 1, 12);
        badForms("digit 1 as 2", 2, 12);
        badForms("digit 1 as (2);", 1, 11);
        badForms(";", 2, 0);

        sentence(4, "blanks (32, 10) part them or not");
        goodForms("digit1 as2;digit2 as3 or4;", 2);
        goodForms("\n digit\n1\nas  2\n;\n", 1);
        goodForms("digit 1 as 2 or 3 ;", 1);
        int[] others = {0, 9, 11, 12, 13, 31, 33, 127, 128, 160, 255};
        for (int b : others) {
            badForms("digit 1 as 2; " + (char) b, 1, 14);
        }

        sentence(4, "each is as long as can be");
        badForms("digitas 1", 2, 0);
        badForms("digit 12 as 1;", 4, 6);
        badForms("digit 1 2 as 1;", 2, 8);
        badForms("digi t 1 as 2;", 2, 0);

        sentence(4, "no letter directly behind an N");
        badForms("digit 1as 2;", 1, 6);
        badForms("digit 1 as 2or 3;", 1, 11);
        badForms("digit 1 as 2z;", 1, 11);
        goodForms("digit 1 as 2 or 3;", 1);
        badForms("digit 1A", 1, 7);
    }

    private static void formsFaultOrder() {
        sentence(4, "FAULTS, the first by its place");
        badForms("digit 7 as 127;#", 1, 15);
        badForms("digit 7 as 127;as", 2, 15);
        badForms("digit 10 as #;", 4, 6);
        badForms("digit as #", 2, 6);
        badForms("digit 1 as 2;digit 1 as 0;", 3, 19);
        badForms("digit 1 as 0;digit 1 as 3;", 4, 11);

        sentence(4, "bytes from 0; the end: the text's length");
        badForms("#", 1, 0);
        badForms("digit", 2, 5);
        badForms("digit 1 as 2  \n", 2, 15);
        badForms("  digit", 2, 7);

        sentence(4, "at one place the least");
        badForms("digit 7 as 127", 2, 14);
        badForms("digit 7 as 127 or", 2, 17);
        badForms("digit 7 as 127;digit", 2, 20);
        badForms("digit abcdefghi", 1, 6);
    }

    // promise 5, SUMS

    private static void goodSum(String text, String shown) {
        StickSums x = busy();
        due("lay '" + text + "'", lay(x, text), shown.length());
        due("row", row(x), shown);
        due("FAULT", x.fault(0), 0);
        due("place", x.fault(1), NONE);
        due("bytes", x.about(5), 0);
    }

    private static void badSum(String text, int fault, int place) {
        StickSums x = busy();
        String before = state(x).replaceAll(" 0 -1$", "");
        due("lay '" + text + "'", lay(x, text), NONE);
        due("state behind '" + text + "'", state(x), before + " " + fault + " " + place);
    }

    private static void sumTests() {
        sumCells();
        sumFaults();
        sentence(5, "THE ROW (SEEN are none then; THE GOAL stays)");
        StickSums x = busy();
        due("lay", lay(x, "1=1"), 3);
        due("about", x.about(0) * 10000 + x.about(1) * 100 + x.about(2) * 10 + x.about(3), 30650);
        due("untell", x.untell(0), false);
        due("no CELLS of the ROW before", x.cell(3) + x.says(3) + x.cell(4), -3);
        due("the first is 0 again", x.seen(0, 0, true), 0);

        sentence(5, "NONE: a FAULT (all stays)");
        badSum("1+1", 2, 3);
        StickSums y = busy();
        lay(y, "1+1");
        due("redo", y.redo(), true);
        due("undo", y.undo() && y.undo(), true);
        due("row", row(y), "6+4=4");

        sentence(5, "-2, and the TAPE stays: more than 60 bytes");
        goodSum(filled("1=1", 59), "1=1");
        goodSum(filled("1=1", 60), "1=1");
        goodSum(" ".repeat(57) + "1=1", "1=1");
        int[] more = {61, 80, 299, 300};
        for (int bytes : more) {
            StickSums z = busy();
            write(z, filled("1=1", bytes));
            String before = state(z);
            due("lay of " + bytes, z.lay(), -2);
            due("state", state(z), before);
            z.end(60);
            due("lay of 60", z.lay(), 3);
        }
        StickSums w = busy();
        write(w, filled("#", 61));
        due("61 bytes with a FAULT", w.lay(), -2);
    }

    private static void sumCells() {
        sentence(5, "A number is 1 to 4 digits");
        goodSum("1=1", "1=1");
        goodSum("1234=1234", "1234=1234");
        goodSum("9999*9999=1", "9999*9999=1");
        badSum("12345=1", 2, 4);
        badSum("1=12345", 2, 6);
        badSum("1+12345=1", 2, 6);
        badSum("12 34 5=1", 2, 6);

        sentence(5, "none of them behind a 0 that is the first");
        goodSum("0=0", "0=0");
        goodSum("100=1000", "100=1000");
        goodSum("0+0*0/0=0", "0+0*0/0=0");
        badSum("00=0", 2, 1);
        badSum("01=1", 2, 1);
        badSum("1=01", 2, 3);
        badSum("1+09=1", 2, 3);
        badSum("0 1=1", 2, 2);

        sentence(5, "Each byte but blanks (32, 10) is a CELL; at most 11.");
        goodSum(ELEVEN, ELEVEN);
        goodSum(" 1 2\n3 4 +\n 5 6 7 8 = 9 \n", ELEVEN);
        goodSum("1+1+1+1+1=5", "1+1+1+1+1=5");
        badSum(ELEVEN + "0", 2, 11);
        badSum(ELEVEN + " \n0", 2, 13);
        badSum("1+1+1+1+1+1=6", 2, 11);
        badSum("1+1+1+1+1=5+", 2, 11);
        badSum("1+1+1+1+1+1", 2, 11);
    }

    private static void sumFaults() {
        sentence(5, "1 a byte that is none of 0 .. 9 + - = * / and blanks");
        int[] others = {0, 9, 11, 13, 31, 33, '(', ')', ',', '.', ':', ';', '<', '>', 'a', 127, 128, 255};
        for (int b : others) {
            badSum("1" + (char) b + "=1", 1, 1);
        }
        badSum("#", 1, 0);
        badSum("1=1#", 1, 3);

        sentence(5, "2 one that can't stand there");
        badSum("+1=1", 2, 0);
        badSum("-1=1", 2, 0);
        badSum("*1=1", 2, 0);
        badSum("/1=1", 2, 0);
        badSum("=1", 2, 0);
        badSum("1++1=1", 2, 2);
        badSum("1*-1=1", 2, 2);
        badSum("1=+1", 2, 2);
        badSum("1+=1", 2, 2);
        badSum("1==1", 2, 2);
        badSum("1=1=1", 2, 3);
        badSum("1=1 =", 2, 4);

        sentence(5, "(a 12th CELL; the end)");
        badSum("", 2, 0);
        badSum(" ", 2, 1);
        badSum("1", 2, 1);
        badSum("1=", 2, 2);
        badSum("1=1+", 2, 4);
        badSum("1=1* \n", 2, 6);
        badSum("1234", 2, 4);
        badSum("1+1+1+1+1+1 ", 2, 12);
        badSum(filled("1", 60), 2, 60);

        sentence(5, "FAULTS as above: at one place the least");
        badSum(ELEVEN + "#", 1, 11);
        badSum("1=1=#", 2, 3);
        badSum("1#1=1=", 1, 1);
    }

    // promise 6

    private static void goalTests() {
        sentence(6, "The TAPE (empty then) is a SUM: THE GOAL: likewise.");
        StickSums x = busy();
        String before = state(x);
        due("goal", goal(x, "9+4=4"), 5);
        due("nothing but THE GOAL", state(x), before);
        due("apart", x.apart(1), 2);
        due("eleven CELLS", goal(x, ELEVEN), 11);
        due("CELLS", x.about(2), 11);
        due("three CELLS", goal(x, filled("1=1", 60)), 3);
        due("CELLS", x.about(2), 3);
        due("SEEN", x.about(3), 1);
        due("redo", x.redo(), true);

        sentence(6, "likewise (NONE: a FAULT)");
        String[] texts = {"", "1=1=", ELEVEN + "1", "00=0", "12345=1", "#", "1=1 +#"};
        int[] faults = {200, 203, 211, 201, 204, 100, 105};
        for (int i = 0; i < texts.length; i++) {
            StickSums y = busy();
            String old = state(y).replaceAll(" 0 -1$", "");
            due("goal '" + texts[i] + "'", goal(y, texts[i]), NONE);
            due("state", state(y), old + " " + faults[i] / 100 + " " + faults[i] % 100);
            due("GOAL stays", y.apart(0) * 10 + y.apart(1), 12);
        }

        sentence(6, "likewise (-2, and the TAPE stays: more than 60 bytes)");
        int[] more = {61, 300};
        for (int bytes : more) {
            StickSums z = busy();
            write(z, filled("1=1", bytes));
            String old = state(z);
            due("goal of " + bytes, z.goal(), -2);
            due("state", state(z), old);
            z.end(60);
            due("goal of 60", z.goal(), 3);
        }
    }

    // promise 7, WANTED

    private static void goodWanted(String text, int units) {
        StickSums x = busy();
        due("wanted '" + text + "'", want(x, text), units);
        due("units", x.about(7), units);
        due("FAULT", x.fault(0), 0);
        due("place", x.fault(1), NONE);
        due("bytes", x.about(5), 0);
    }

    private static void badWanted(String text, int fault, int place) {
        StickSums x = busy();
        String before = state(x).replaceAll(" 0 -1$", "");
        due("wanted '" + text + "'", want(x, text), NONE);
        due("state behind '" + text + "'", state(x), before + " " + fault + " " + place);
    }

    /** Whether 0+4=4 (of 18 sticks, 3 FIGURES) is GOOD. */
    private static void law(String text, int good) {
        StickSums x = laid("0+4=4");
        want(x, text);
        due("'" + text + "' of 0+4=4", x.mends(0, 0), good);
    }

    private static void wantedTests() {
        wantedTexts();
        wantedUnits();
        wantedWithin();
        wantedTokens();
        wantedWorth();
    }

    private static void wantedTexts() {
        sentence(7, "WANTED is a text of at most 200 bytes; -2, and the TAPE stays: more than 200 bytes.");
        goodWanted(filled("left", 199), 1);
        goodWanted(filled("left", 200), 1);
        goodWanted(" ".repeat(196) + "left", 1);
        badWanted(filled("left", 199) + "1", 2, 199);
        int[] more = {201, 300};
        for (int bytes : more) {
            StickSums x = busy();
            write(x, filled("1", bytes));
            String before = state(x);
            due("wanted of " + bytes, x.wanted(), -2);
            due("state", state(x), before);
            x.end(200);
            due("wanted of 200", x.wanted(), 1);
        }
        StickSums y = busy();
        write(y, filled("#", 201));
        due("201 bytes with a FAULT", y.wanted(), -2);

        sentence(7, "(empty at first; an empty one is WANTED, too)");
        due("empty at first", laid("1=1").mends(0, 0), 1);
        goodWanted("", 0);
        goodWanted(" \n", 0);
        goodWanted(" ".repeat(200), 0);
        StickSums z = laid("1=1");
        want(z, "0");
        due("0", z.mends(0, 0), 0);
        want(z, "");
        due("empty", z.mends(0, 0), 1);
        want(z, "0");
        want(z, "\n");
        due("blanks", z.mends(0, 0), 1);

        sentence(7, "NONE: a FAULT (that there is stays)");
        StickSums w = laid("1=1");
        want(w, "left=2");
        due("a FAULT", want(w, "left=1 left"), NONE);
        due("stays", w.mends(0, 0), 0);
        due("stays", w.about(7), 2);
        due("a FAULT at the end", want(w, "left=1 or"), NONE);
        due("stays", w.mends(0, 0), 0);
    }

    private static void wantedUnits() {
        sentence(7, "40 units in all; FAULT 2 (a 41st unit: at its first TOKEN)");
        goodWanted("1", 1);
        goodWanted("1" + "+1".repeat(38), 39);
        goodWanted("1" + "+1".repeat(39), 40);
        badWanted("1" + "+1".repeat(40), 2, 80);
        badWanted("1" + "+1".repeat(39) + "*left", 2, 80);
        badWanted("1" + "+1".repeat(39) + "+(1)", 2, 80);
        goodWanted("1" + "+1".repeat(37) + "+(1)", 40);
        badWanted("1" + "+1".repeat(38) + "+(1)", 2, 79);
        goodWanted("1" + "+1".repeat(31) + "+(((((((1)))))))", 40);
        badWanted("1" + "+1".repeat(32) + "+(((((((1)))))))", 2, 73);
        goodWanted("not " + "1" + "+1".repeat(39), 40);
        goodWanted("1" + " or 1".repeat(39), 40);
        badWanted("1" + " or 1".repeat(39) + "+1", 2, 197);
        badWanted("1" + "+1".repeat(39) + "+not", 2, 80);
        badWanted("1" + "+1".repeat(39) + "+#", 1, 80);
        badWanted("1" + "+1".repeat(39) + "=40", 2, 80);
        law("1" + "+1".repeat(38) + "=39", 1);
    }

    private static void wantedWithin() {
        sentence(7, "a unit ( e ), or a one behind not, within 6 others at most");
        goodWanted("(((((((1)))))))", 8);
        badWanted("((((((((1))))))))", 2, 7);
        goodWanted("not ".repeat(7) + "1", 1);
        badWanted("not ".repeat(8) + "1", 2, 28);
        goodWanted("not (not (not (not 1)))", 4);
        badWanted("not (not (not (not (1))))", 2, 19);
        goodWanted("((((((not 1))))))", 7);
        badWanted("(((((((not 1)))))))", 2, 7);
        goodWanted("not ".repeat(6) + "(1)", 2);
        badWanted("not ".repeat(7) + "(1)", 2, 28);
        badWanted("not ".repeat(7) + "not", 2, 28);

        sentence(7, "within 6 others at most (others that have ended do not count)");
        goodWanted("(((((((1)))))))+(((((((1)))))))", 16);
        goodWanted("not ".repeat(7) + "1 and " + "not ".repeat(7) + "1", 2);
        goodWanted("not ".repeat(6) + "(1) or (((((((1)))))))", 10);
        badWanted("not ".repeat(6) + "1=(1)and((((((((1))))))))", 2, 39);

        sentence(7, "FAULT 2: what is within 7 others: at its first TOKEN, or the not");
        badWanted("((((((( (1", 2, 8);
        badWanted("(((((((1+(1))))))))", 2, 9);
        badWanted("(((((((1 and\nnot", 2, 13);
        badWanted("(((((((#", 1, 7);
    }

    private static void wantedTokens() {
        sentence(7, "TOKENS as of FORMS, with the signs ( ) < > = + - * in place of ;");
        goodWanted("(1)<2", 3);
        goodWanted("1>2", 2);
        goodWanted("1=2", 2);
        goodWanted("1+2-3*4", 4);
        int[] others = {0, 9, 13, 31, 33, '\'', ',', '.', '/', ':', ';', '?', 'A', '{', 127, 128, 255};
        for (int b : others) {
            badWanted("1 " + (char) b, 1, 2);
        }

        sentence(7, "TOKENS as of FORMS (words 8 at most, N 1 to 4 digits, no letter directly behind an N)");
        badWanted("figuress", 2, 0);
        badWanted("figuresss", 1, 0);
        goodWanted("9999", 1);
        badWanted("10000", 1, 0);
        goodWanted("0000", 1);
        badWanted("00000", 1, 0);
        badWanted("1left", 1, 0);
        badWanted("1or 1", 1, 0);
        goodWanted("left+1 or(1)and 0001", 5);
        badWanted("left1", 2, 4);
        goodWanted("not1", 1);
        badWanted("notleft", 2, 0);
        badWanted("digit", 2, 0);
        badWanted("as", 2, 0);
        badWanted("mot 1", 2, 0);
        badWanted("1 er 1", 2, 2);
        badWanted("1 end 1", 2, 2);
        badWanted("heft", 2, 0);
        badWanted("sight", 2, 0);
        badWanted("ticks", 2, 0);
        badWanted("figure", 2, 0);

        sentence(7, "one = not one | sum [(< | > | =) sum]");
        badWanted("1<2<3", 2, 3);
        badWanted("1=2=3", 2, 3);
        badWanted("1<>2", 2, 2);
        badWanted("1+not 1", 2, 2);
        badWanted("1=not 1", 2, 2);
        badWanted("not", 2, 3);
        badWanted("not or", 2, 4);
        badWanted("and 1", 2, 0);
        badWanted("1 and", 2, 5);
        badWanted("1 or ", 2, 5);
        badWanted("1 1", 2, 2);
        badWanted("()", 2, 1);
        badWanted("(1", 2, 2);
        badWanted("(1))", 2, 3);
        badWanted(")", 2, 0);
        badWanted("-1", 2, 0);
        badWanted("1+", 2, 2);
        badWanted("1*", 2, 2);
        badWanted("1--1", 2, 2);
    }

    private static void wantedWorth() {
        sentence(7, "Longs, wrapping");
        String half = "8192*8192*8192*8192*2048";
        law(half + "<0", 1);
        law(half + ">0", 0);
        law(half + "-1>0", 1);
        law(half + "-1-9999*9999>0", 1);
        law(half + "*2", 0);
        law(half + "*2+1=1", 1);
        law(half + "+" + half, 0);
        law("0-" + half + "<0", 1);
        law("8192*8192*64>0", 1);
        law("9999*9999*9999>9999*9999", 1);

        sentence(7, "relations, and, or, not are 1 or 0, of what is not 0");
        law("(left<5)=1", 1);
        law("(left<4)=0", 1);
        law("(left>3)=1", 1);
        law("(left>4)=0", 1);
        law("(left=4)=1", 1);
        law("(left=3)=0", 1);
        law("(2 and 3)=1", 1);
        law("(2 and 0)=0", 1);
        law("(0 and 2)=0", 1);
        law("(0 or 2)=1", 1);
        law("(2 or 0)=1", 1);
        law("(0 or 0)=0", 1);
        law("(not 2)=0", 1);
        law("(not 0)=1", 1);
        law("(not (0-1))=0", 1);
        law("((0-1) and (0-1))=1", 1);

        sentence(7, "left, right: the worth of the sides; sticks: how many there are; figures: how many CELLS are FIGURES");
        law("left=4 and right=4 and sticks=18 and figures=3", 1);
        law("left=5 or right=5 or sticks=17 or sticks=19 or figures=2 or figures=4", 0);

        sentence(7, "GOOD, if it is TRUE, and WANTED is not 0 (or empty)");
        law("0", 0);
        law("1", 1);
        law("0-1", 1);
        law("0000", 0);
        law("", 1);
        StickSums x = laid("0+4=5");
        want(x, "1");
        due("not TRUE", x.mends(0, 0), 0);
    }

    // promises 8 and 9

    private static void faultTests() {
        sentence(8, "Of the latest forms(), lay(), goal() or wanted() that was not -2");
        StickSums x = new StickSums();
        due("none at first", x.fault(0) * 10 + x.fault(1), -1);
        String[] texts = {"digit 1 as 0;", "1==1", "1+#", "1+"};
        int[] faults = {411, 202, 102, 202};
        for (int i = 0; i < 4; i++) {
            for (int good = 0; good < 4; good++) {
                write(x, texts[i]);
                due("call " + i, take(x, i), NONE);
                due("FAULT", x.fault(0) * 100 + x.fault(1), faults[i]);
                write(x, good == 1 || good == 2 ? "1=1" : "");
                take(x, good);
                due("no FAULT behind call " + good, x.fault(0) * 100 + x.fault(1), -1);
            }
        }
        for (int i = 1; i < 4; i++) {
            StickSums y = new StickSums();
            write(y, texts[i]);
            take(y, i);
            write(y, " ".repeat(201));
            due("call " + i, take(y, i), -2);
            due("-2 leaves the FAULT", y.fault(0) * 100 + y.fault(1), faults[i]);
            forms(y, "");
            write(y, " ".repeat(201));
            due("call " + i, take(y, i), -2);
            due("-2 leaves none", y.fault(0) * 100 + y.fault(1), -1);
        }

        sentence(8, "what 0: its FAULT (0), 1: its place (NONE). NONE for another what.");
        lay(x, "1=1=");
        due("what 0", x.fault(0), 2);
        due("what 1", x.fault(1), 3);
        each("fault", x::fault, NONE, -1, 2, LEAST, GREATEST);
        lay(x, "1=1");
        due("what 0", x.fault(0), 0);
        due("what 1", x.fault(1), NONE);
        each("fault", x::fault, NONE, -1, 2, LEAST, GREATEST);

        sentence(9, "WAY n (0, 1) of a digit; NONE if there is none such.");
        StickSums z = new StickSums();
        forms(z, "digit 0 as 1 or 2;digit 9 as 3 or 4;");
        due("way 0 0", z.way(0, 0), 1);
        due("way 0 1", z.way(0, 1), 2);
        due("way 9 0", z.way(9, 0), 3);
        due("way 9 1", z.way(9, 1), 4);
        due("way 8 0", z.way(8, 0), 127);
        due("way 8 1", z.way(8, 1), NONE);
        for (int n = 0; n <= 1; n++) {
            int of = n;
            each("digit, n " + n, d -> z.way(d, of), NONE, -1, 10, LEAST, GREATEST, LEAST / 2, GREATEST / 2 + 1);
        }
        for (int d = 0; d <= 9; d += 9) {
            int of = d;
            each("way " + d, n -> z.way(of, n), NONE, -1, 2, LEAST, GREATEST);
        }
        due("both outside", z.way(-1, 2), NONE);
        due("both outside", z.way(LEAST, GREATEST), NONE);
        due("both outside", z.way(1, -2), NONE);
    }

    private static int take(StickSums x, int call) {
        switch (call) {
            case 0: return x.forms();
            case 1: return x.lay();
            case 2: return x.goal();
            default: return x.wanted();
        }
    }

    // promises 10 to 12

    private static void cellTests() {
        sentence(10, "Sticks of a CELL of THE ROW, as bits; NONE if there is none such.");
        StickSums x = laid(ELEVEN);
        due("cell 0", x.cell(0), 6);
        due("cell 10", x.cell(10), 111);
        each("cell", x::cell, NONE, -1, 11, LEAST, GREATEST);
        lay(x, "1=8");
        due("cell 2", x.cell(2), 127);
        each("cell", x::cell, NONE, -1, 3, 10, LEAST, GREATEST);
        each("without CELLS", new StickSums()::cell, NONE, 0, -1, LEAST, GREATEST);
        for (int p = 0; p < 7; p++) {
            x.stick(2, p, false);
        }
        due("without sticks", x.cell(2), 0);
        due("so many sticks", x.about(1), 4);

        sentence(11, "A stick is laid at a PLACE of a CELL, or taken: true");
        StickSums y = laid("8=8");
        due("PLACE 0", y.stick(0, 0, false), true);
        due("PLACE 6", y.stick(0, 6, false), true);
        due("PLACE 6 of the last", y.stick(2, 6, false), true);
        due("PLACE 4 of a SIGN", y.stick(1, 4, true), true);
        due("PLACE 0 of a SIGN", y.stick(1, 0, false), true);
        due("cells", y.cell(0) * 10000 + y.cell(1) * 1000 + y.cell(2), 62 * 10000 + 20 * 1000 + 63);

        sentence(11, "false, doing nothing, if it lies there (does not) already");
        String before = state(y);
        due("taken already", y.stick(0, 0, false), false);
        due("laid already", y.stick(0, 1, true), false);
        due("taken already", y.stick(1, 1, false), false);
        due("laid already", y.stick(1, 4, true), false);
        y.undo();
        due("does nothing", y.stick(0, 1, true), false);
        due("what was taken back is not gone", y.redo(), true);
        due("state", state(y), before);

        sentence(11, "or there is no such PLACE");
        int[] outside = {-1, 7, 8, 32, 38, LEAST, GREATEST};
        for (int p : outside) {
            due("PLACE " + p, as(y.stick(0, p, true)) + as(y.stick(0, p, false)), 0);
            due("PLACE " + p + " of a SIGN", as(y.stick(1, p, true)) + as(y.stick(1, p, false)), 0);
        }
        due("PLACE 5 of a SIGN", as(y.stick(1, 5, true)) + as(y.stick(1, 5, false)), 0);
        due("PLACE 6 of a SIGN", as(y.stick(1, 6, true)) + as(y.stick(1, 6, false)), 0);
        int[] noCells = {-1, 3, 11, LEAST, GREATEST};
        for (int c : noCells) {
            due("CELL " + c, as(y.stick(c, 0, true)) + as(y.stick(c, 0, false)), 0);
        }
        due("state", state(y), before);
        StickSums n = new StickSums();
        due("without CELLS", as(n.stick(0, 0, true)) + as(n.stick(0, 0, false)) + n.about(6), 0);

        saysTests();
    }

    private static void saysTests() {
        sentence(12, "What a CELL reads: the byte of its digit or sign; NONE if it is no WAY");
        int[] ways = {63, 6, 91, 79, 102, 109, 125, 7, 127, 111};
        int[] reads = new int[128];
        Arrays.fill(reads, NONE);
        for (int d = 0; d < 10; d++) {
            reads[ways[d]] = '0' + d;
        }
        allSticks(laid("8=8"), 2, 7, reads);
        int[] signs = new int[32];
        Arrays.fill(signs, NONE);
        signs[3] = '+';
        signs[1] = '-';
        signs[5] = '=';
        signs[24] = '*';
        signs[16] = '/';
        allSticks(laid("8=8"), 1, 5, signs);
        reads[7] = NONE;
        reads[1] = '7';
        reads[64] = '7';
        allSticks(told("digit 7 as 1 or 64;", "8=8"), 0, 7, reads);

        sentence(12, "or there is none such");
        StickSums x = laid("1=8");
        due("CELL 0", x.says(0), '1');
        due("CELL 2", x.says(2), '8');
        each("says", x::says, NONE, -1, 3, 11, LEAST, GREATEST);
        each("without CELLS", new StickSums()::says, NONE, 0, -1, LEAST, GREATEST);
    }

    /** All that can lie in a CELL, one stick changed at a time. */
    private static void allSticks(StickSums x, int cell, int places, int[] reads) {
        for (int p = 0; p < places; p++) {
            x.stick(cell, p, false);
        }
        int bits = 0;
        due("no sticks", x.says(cell), reads[0]);
        for (int i = 1; i < 1 << places; i++) {
            int place = Integer.numberOfTrailingZeros(i);
            bits ^= 1 << place;
            x.stick(cell, place, (bits >> place & 1) == 1);
            due("sticks " + bits, x.says(cell), reads[bits]);
        }
    }

    // promises 13 and 14

    private static void truth(String text, int truth, int left, int right) {
        StickSums x = laid(text);
        due("isTrue " + text, x.isTrue(), truth);
        due("left " + text, x.worth(0), left);
        due("right " + text, x.worth(1), right);
    }

    private static void worthTests() {
        sentence(13, "1 if THE ROW is TRUE, 0 if it SAYS a SUM that is not");
        truth("0=0", 1, 0, 0);
        truth("0=1", 0, 0, 1);
        truth("9999=9999", 1, 9999, 9999);
        truth("9998=9999", 0, 9998, 9999);

        sentence(13, "NONE if it SAYS none.");
        due("without CELLS", new StickSums().isTrue(), NONE);
        StickSums x = laid("81=81");
        x.stick(0, 6, false);
        due("01=81", x.isTrue(), NONE);
        x.stick(0, 6, true);
        due("81=81", x.isTrue(), 1);
        x.stick(0, 0, false);
        due("a CELL that is no WAY", x.isTrue(), NONE);
        StickSums y = laid("1=1-1");
        y.stick(3, 2, true);
        due("1=1=1", row(y), "1=1=1");
        due("two =", y.isTrue(), NONE);
        y.stick(3, 2, false);
        y.stick(1, 2, false);
        due("1-1-1", row(y), "1-1-1");
        due("no =", y.isTrue(), NONE);
        StickSums z = laid("80=80");
        z.stick(1, 6, true);
        z.stick(4, 6, true);
        due("88=88", z.isTrue(), 1);
        z.stick(3, 6, false);
        due("88=08", z.isTrue(), NONE);

        sentence(13, "/ is cut; by 0 there is no worth");
        truth("9/9=1", 1, 1, 1);
        truth("9/10=0", 1, 0, 0);
        truth("1-9/2=0-3", 1, -3, -3);
        truth("0/1=0", 1, 0, 0);
        truth("0/0=0", 0, NO_WORTH, 0);
        truth("1=1/0", 0, 1, NO_WORTH);
        truth("1/0=1/0", 0, NO_WORTH, NO_WORTH);
        truth("1/0*0=0", 0, NO_WORTH, 0);
        truth("1+1/0-1=1", 0, NO_WORTH, 1);

        sentence(14, "Worth: ints; * and / ahead of + and -, from the left");
        truth("9999*9999=1", 0, 99980001, 1);
        truth("0=0-9999*99", 0, 0, -989901);
        truth("9-4-3=2", 1, 2, 2);
        truth("8/4/2=1", 1, 1, 1);
        truth("7/2*2=6", 1, 6, 6);
        truth("2*7/2=7", 1, 7, 7);
        truth("9-2*3+1=4", 1, 4, 4);
        truth("0-0=0", 1, 0, 0);

        sentence(14, "-2000000000 if THE ROW SAYS no SUM, it has none, or there is no such side.");
        StickSums w = laid("7=4/0");
        due("left", w.worth(0), 7);
        due("right", w.worth(1), NO_WORTH);
        each("worth", w::worth, NO_WORTH, -1, 2, LEAST, GREATEST);
        w.stick(0, 0, false);
        due("1=4/0", w.worth(0), 1);
        w.stick(0, 1, false);
        each("no WAY", w::worth, NO_WORTH, 0, 1, -1, 2);
        each("without CELLS", new StickSums()::worth, NO_WORTH, 0, 1, -1, 2, LEAST, GREATEST);
    }

    // promises 15 to 17

    private static void mendTests() {
        sentence(15, "BY t and l (0 .. 3 each)");
        due("0 0 of 1=1", laid("1=1").mends(0, 0), 1);
        due("3 0 of 1=3: 1=1", laid("1=3").mends(3, 0), 1);
        due("0 3 of 1=3: 3=3", laid("1=3").mends(0, 3), 1);
        due("3 1 of 1=0: 7=7", laid("1=0").mends(3, 1), 1);
        due("3 3 of 1=0: 4=4", laid("1=0").mends(3, 3), 1);
        due("0 2 of 1=1: 7=7", laid("1=1").mends(0, 2), 1);
        due("0 3 of 1=1", laid("1=1").mends(0, 3), 0);

        sentence(15, "just t sticks lie no more where they lay, and just l where none lay, in all CELLS together");
        StickSums x = laid("1=1");
        want(x, "left=1");
        for (int p = 3; p <= 5; p++) {
            x.stick(0, p, true);
            due("so many to take: " + (p - 2), x.mends(p - 2, 0), 1);
            due("one less", x.mends(p - 3, 0), 0);
        }
        x.stick(2, 3, true);
        due("four to take", x.mends(3, 0), 0);
        x.undo();
        x.stick(2, 1, false);
        x.stick(2, 2, false);
        x.stick(0, 2, false);
        due("three to take, three to lay", x.mends(3, 3), 1);
        x.stick(0, 1, false);
        due("three to take, four to lay", x.mends(3, 3), 0);

        sentence(15, "A number is 1 to 4 digits (in ROWS that are GOOD)");
        String[] numbers = {"0", "1", "9", "10", "19", "99", "100", "199", "999", "1000", "1999", "9999"};
        for (String n : numbers) {
            due(n + "=" + n, laid(n + "=" + n).mends(0, 0), 1);
            due(n + "=0-0+" + n, n.length() > 3 ? 1 : laid(n + "=0-0+" + n).mends(0, 0), 1);
        }
        due("0-999=0-999", laid("0-999=0-999").mends(0, 0), 1);
        due("0-1000=1", laid("0-1000=1").mends(0, 0), 0);
        due("9=9999-9990", laid("9=9999-9990").mends(0, 0), 1);
        due("9000=9*1000", laid("9000=9*1000").mends(0, 0), 1);
        due("1=9999/5000", laid("1=9999/5000").mends(0, 0), 1);

        sentence(15, "NONE if one can't be");
        StickSums y = laid("1=1");
        for (int other = 0; other <= 3; other++) {
            int by = other;
            each("t, l " + by, t -> y.mends(t, by), NONE, -1, 4, LEAST, GREATEST);
            each("t " + by + ", l", l -> y.mends(by, l), NONE, -1, 4, LEAST, GREATEST);
        }
        due("both", y.mends(4, 4), NONE);
        due("both", y.mends(-1, 4), NONE);
        due("both", y.mends(LEAST, GREATEST), NONE);

        sentence(15, "or without CELLS");
        StickSums n = new StickSums();
        due("without CELLS", n.mends(0, 0) + n.mends(3, 3), -2);

        mendCells();
        leastTests();
    }

    private static void mendCells() {
        sentence(16, "What a CELL of the i-th of them (from 0 on) reads; NONE likewise, or if there is none such.");
        StickSums x = laid("6+4=4");
        due("the first", read(x, c -> x.mend(1, 1, 0, c)), "0+4=4");
        due("the last", read(x, c -> x.mend(1, 1, 1, c)), "8-4=4");
        each("i", i -> x.mend(1, 1, i, 0), NONE, -1, 2, 255, 256, 257, LEAST, GREATEST);
        due("the first again", x.mend(1, 1, 0, 0), '0');
        each("cell", c -> x.mend(1, 1, 0, c), NONE, -1, 5, 11, LEAST, GREATEST);
        each("t", t -> x.mend(t, 1, 0, 0), NONE, -1, 4, LEAST, GREATEST);
        each("l", l -> x.mend(1, l, 0, 0), NONE, -1, 4, LEAST, GREATEST);
        due("of none", x.mend(0, 0, 0, 0), NONE);
        due("all wrong", x.mend(GREATEST, LEAST, GREATEST, LEAST), NONE);
        StickSums n = new StickSums();
        due("without CELLS", n.mend(0, 0, 0, 0), NONE);

        sentence(16, "their order is by CELLS from the left: digits from 0 on, each by its WAYS, signs + - = * /");
        StickSums y = told("digit 6 as 125 or 124;digit 5 as 64;", "6=6");
        y.stick(0, 0, false);
        due("6=6 by its second WAY, then by its first", y.mends(0, 0) + 10 * y.mends(0, 1) + 100 * y.mends(1, 0), 111);
        StickSums z = laid("0-0=0");
        want(z, "sticks=21");
        List<String> found = new ArrayList<>();
        for (int i = 0; i < 3; i++) {
            int at = i;
            found.add(read(z, c -> z.mend(0, 0, at, c)));
        }
        due("just one", found.toString(), "[0-0=0, ....., .....]");
        StickSums w = laid("0-0=0");
        due("0+0=0, a stick laid", read(w, c -> w.mend(0, 1, 0, c)), "0+0=0");
    }

    private static void leastTests() {
        sentence(17, "The fewest sticks (0 .. 3) by which a GOOD ROW is MOVED; NONE if none is");
        StickSums x = laid("1=1");
        want(x, "left=1");
        int[] cells = {0, 0, 2, 2};
        int[] from = {1, 2, 1, 2};
        int[] to = {3, 4, 3, 4};
        for (int moved = 0; moved < 4; moved++) {
            due("moved " + moved, x.least(), moved);
            x.stick(cells[moved], from[moved], false);
            due("a stick is missing", x.least(), NONE);
            x.stick(cells[moved], to[moved], true);
        }
        due("moved 4", x.least(), NONE);
        x.undo();
        x.undo();
        due("moved 3", x.least(), 3);
        want(x, "0");
        due("none GOOD", x.least(), NONE);

        sentence(17, "or without CELLS.");
        due("without CELLS", new StickSums().least(), NONE);
    }

    // promises 18 to 20

    /** Two WAYS for each digit: its first, and another. */
    private static String twentyWays() {
        int[] first = {63, 6, 91, 79, 102, 109, 125, 7, 127, 111};
        int[] second = {1, 2, 4, 8, 16, 32, 64, 3, 5, 9};
        StringBuilder b = new StringBuilder();
        for (int d = 0; d < 10; d++) {
            b.append("digit ").append(d).append(" as ").append(first[d]).append(" or ").append(second[d]).append(';');
        }
        return b.toString();
    }

    /** By sticks, how many TRUE SUMS three FIGURES and two SIGNS make, if each digit has two WAYS. */
    private static int[] bySticks(StickSums x) {
        int[] of = new int[20];
        for (int w = 0; w < 20; w++) {
            of[w] = Integer.bitCount(x.way(w / 2, w % 2));
        }
        int[] signs = {2, 1, 2, 1};
        int[] all = new int[78];
        for (int i = 0; i < 20 * 20 * 20 * 4; i++) {
            int a = i / 1600;
            int b = i / 80 % 20;
            int c = i / 4 % 20;
            int sticks = of[a] + of[b] + of[c] + signs[i % 4] + 2;
            all[sticks] += joined(a / 2, i % 4, b / 2) == c / 2 ? 1 : 0;
            all[sticks] += joined(b / 2, i % 4, c / 2) == a / 2 ? 1 : 0;
        }
        return all;
    }

    private static int joined(int a, int sign, int b) {
        switch (sign) {
            case 0: return a + b;
            case 1: return a - b;
            case 2: return a * b;
            default: return b == 0 ? NO_WORTH : a / b;
        }
    }

    private static void shapeTests() {
        sentence(18, "of just so many sticks (0 .. 77); NONE if one can't be");
        StickSums x = laid("7=7");
        int[] due = new int[78];
        int[] digits = {6, 2, 5, 5, 4, 5, 6, 3, 7, 6};
        for (int d : digits) {
            due[2 * d + 2]++;
        }
        for (int n = 0; n <= 77; n++) {
            due("shape " + n, x.shape(n), due[n]);
        }
        each("shape", x::shape, NONE, -1, 78, LEAST, GREATEST);

        sentence(18, "or without CELLS");
        each("without CELLS", new StickSums()::shape, NONE, 0, 77, -1, 78, LEAST, GREATEST);

        sentence(18, "SPENT, if the WAYS of all CELLS, multiplied, are more than 200,000");
        StickSums y = told(twentyWays(), "1+1=1");
        int[] all = bySticks(y);
        for (int n = 0; n <= 77; n++) {
            due("200,000: shape " + n, y.shape(n), all[n]);
        }
        String four = "digit 0 as 63 or 1;digit 1 as 6 or 2;digit 2 as 91 or 4;digit 3 as 79 or 8;";
        StickSums z = told(four, "12=34");
        int sum = 0;
        for (int n = 0; n <= 77; n++) {
            sum += z.shape(n);
        }
        due("192,080", sum, (5 * 1 + 1 + 3 * 4) * (6 * 1 + 4 * 4));
        StickSums fifteen = told(four + "digit 4 as 102 or 16;", "12=34");
        each("253,125", fifteen::shape, SPENT, 0, 12, 77);
        each("can't be", fifteen::shape, NONE, -1, 78, LEAST, GREATEST);
        each("250,000", laid("1+1=11")::shape, SPENT, 0, 12, 77);
        each("20 by 9, 5 by 2", told(twentyWays(), ELEVEN)::shape, SPENT, 0, 12, 77);

        shapedTests(y, all);
        boundTests(y, all, fifteen);
    }

    private static void shapedTests(StickSums y, int[] all) {
        sentence(19, "What a CELL of the i-th of them reads; NONE if there is none such.");
        StickSums x = laid("7=7");
        due("the only one of 6 sticks", read(x, c -> x.shaped(6, 0, c)), "1=1");
        due("the last of 12 sticks", read(x, c -> x.shaped(12, 2, c)), "5=5");
        each("i", i -> x.shaped(12, i, 0), NONE, -1, 3, 255, 256, LEAST, GREATEST);
        each("cell", c -> x.shaped(12, 0, c), NONE, -1, 3, 11, LEAST, GREATEST);
        each("sticks", n -> x.shaped(n, 0, 0), NONE, -1, 0, 5, 7, 17, 77, 78, LEAST, GREATEST);
        due("all wrong", x.shaped(LEAST, GREATEST, LEAST), NONE);
        due("without CELLS", new StickSums().shaped(6, 0, 0), NONE);
        int most = 0;
        for (int n = 0; n <= 77; n++) {
            most = all[n] > all[most] ? n : most;
        }
        int of = most;
        due("more than 256", all[of] > 256, true);
        each("one of many", i -> y.shaped(of, i, 0) == NONE ? NONE : 1, 1, 0, 255, 256, all[of] - 1);
        each("one of many", i -> y.shaped(of, i, 0), NONE, -1, all[of], all[of] + 1, LEAST, GREATEST);
        due("SPENT", laid("1+1=11").shaped(12, 0, 0), NONE);
    }

    private static void boundTests(StickSums y, int[] all, StickSums spent) {
        sentence(20, "The fewest (most false), the most sticks by which the SHAPE has a ROW");
        int least = 0;
        while (all[least] == 0) {
            least++;
        }
        int most = 77;
        while (all[most] == 0) {
            most--;
        }
        due("fewest", y.bound(false), least);
        due("most", y.bound(true), most);
        StickSums x = laid("7=7");
        due("1=1", x.bound(false), 6);
        due("8=8", x.bound(true), 16);
        want(x, "left=2");
        due("one alone", x.bound(false) * 100 + x.bound(true), 1212);

        sentence(20, "NONE if by none, or without CELLS; -2 if SPENT.");
        want(x, "left=10");
        due("by none", x.bound(false) + x.bound(true), -2);
        due("shape", x.shape(6), 0);
        StickSums n = new StickSums();
        due("without CELLS", n.bound(false), NONE);
        due("without CELLS", n.bound(true), NONE);
        due("SPENT", spent.bound(false), SPENT);
        due("SPENT", spent.bound(true), SPENT);
        want(spent, "0");
        due("SPENT, though none is wanted", spent.bound(true), SPENT);
    }

    // promises 21 to 23

    private static void pathTests() {
        sentence(21, "How many sticks lie in THE ROW where none lies in THE GOAL (what 0), the other way round (1)");
        StickSums x = laid("1=8");
        goal(x, "8=1");
        due("0", x.apart(0), 5);
        due("1", x.apart(1), 5);
        each("apart", x::apart, NONE, -1, 2, LEAST, GREATEST);
        goal(x, "8=8");
        due("0", x.apart(0), 0);
        due("1", x.apart(1), 5);
        goal(x, "1=8");
        due("the same", x.apart(0) + x.apart(1), 0);

        sentence(21, "NONE if they are not LIKE, or without CELLS.");
        goal(x, "1=88");
        each("a CELL more", x::apart, NONE, 0, 1, -1, 2);
        lay(x, "12=12");
        goal(x, "1+1=2");
        each("another sort", x::apart, NONE, 0, 1);
        goal(x, "88=88");
        due("LIKE", x.apart(0), 0);
        due("LIKE", x.apart(1), 14);
        each("without both", new StickSums()::apart, NONE, 0, 1, -1, 2, LEAST, GREATEST);
        each("without GOAL", laid("1=1")::apart, NONE, 0, 1);
        StickSums n = new StickSums();
        goal(n, "1=1");
        each("without ROW", n::apart, NONE, 0, 1);

        stepTests();
        pathSpent();
    }

    private static void stepTests() {
        sentence(22, "How many moves the PATH has; NONE if there is none, or one of both is not TRUE, or they are not LIKE");
        StickSums x = laid("0+4=4");
        due("without GOAL", x.steps(), NONE);
        goal(x, "0+4=4");
        due("there already", x.steps(), 0);
        goal(x, "8-4=4");
        due("one move", x.steps(), 1);
        goal(x, "8-4=5");
        due("GOAL not TRUE", x.steps(), NONE);
        goal(x, "8/0=4");
        due("GOAL without worth", x.steps(), NONE);
        goal(x, "8-4=4");
        x.stick(0, 6, true);
        due("ROW not TRUE", x.steps(), NONE);
        x.stick(0, 0, false);
        due("ROW SAYS none", x.steps(), NONE);
        lay(x, "12=12");
        due("another sort", x.steps(), NONE);
        lay(x, "12-8=4");
        due("a CELL more", x.steps(), NONE);
        lay(x, "1-1=0");
        due("as many sticks, and more", x.steps(), NONE);
        due("without both", new StickSums().steps(), NONE);
        StickSums n = new StickSums();
        goal(n, "1=1");
        due("without ROW", n.steps(), NONE);

        sentence(23, "What a CELL reads behind so many moves of it; NONE if there is none such, or no PATH.");
        StickSums y = laid("0+4=4");
        goal(y, "8-4=4");
        due("0 moves", read(y, c -> y.step(0, c)), "0+4=4");
        due("1 move", read(y, c -> y.step(1, c)), "8-4=4");
        each("moves", m -> y.step(m, 0), NONE, -1, 2, LEAST, GREATEST);
        each("cell, 0 moves", c -> y.step(0, c), NONE, -1, 5, 11, LEAST, GREATEST);
        each("cell, 1 move", c -> y.step(1, c), NONE, -1, 5, 11, LEAST, GREATEST);
        goal(y, "0+4=4");
        due("there already", y.step(0, 0), '0');
        each("moves", m -> y.step(m, 0), NONE, -1, 1, LEAST, GREATEST);
        goal(y, "1+1=2");
        each("no PATH", m -> y.step(m, 0), NONE, -2, -1, 0, 1, LEAST, GREATEST);
        each("without both", m -> new StickSums().step(m, 0), NONE, -1, 0, 1, LEAST, GREATEST);
    }

    private static void pathSpent() {
        sentence(22, "SPENT, if 150 others are found, THE GOAL not among them.");
        StickSums x = laid("60/85=0");
        goal(x, "22/88=0");
        due("the 149th of 149", x.steps(), 6);
        goal(x, "11-11=0");
        due("149 are found, THE GOAL not among them", x.steps(), NONE);
        StickSums y = laid("66=65-0+1");
        goal(y, "29=28-0+1");
        due("the 150th of 150", y.steps(), 11);
        due("its last", read(y, c -> y.step(11, c)), "29=28-0+1");
        due("behind it", y.step(12, 0), NONE);
        goal(y, "11=11-0+0");
        due("150 are found, THE GOAL not among them", y.steps(), SPENT);
        StickSums z = laid("3/12/9=0");
        goal(z, "5=15/3+0");
        due("the 150th of 151", z.steps(), 7);
        goal(z, "5=10/2-0");
        due("the 151st", z.steps(), SPENT);

        sentence(23, "NONE if there is none such, or no PATH (SPENT)");
        each("SPENT", m -> z.step(m, 0), NONE, -2, -1, 0, 1, 7, LEAST, GREATEST);
    }

    // promise 24

    private static void puzzleTests() {
        sentence(24, "PUZZLE by k (1, 2) of a TRUE ROW; NONE if there is none, or one can't be");
        StickSums x = laid("9=9");
        due("by 1", read(x, c -> x.puzzle(1, c)), "3=8");
        due("by 2", read(x, c -> x.puzzle(2, c)), "0=6");
        each("k", k -> x.puzzle(k, 0), NONE, -1, 0, 3, LEAST, GREATEST);
        each("k of 4=4, which has 0=1 by 3", k -> laid("4=4").puzzle(k, 0), NONE, -1, 0, 3, 4, LEAST, GREATEST);
        each("cell, by 1", c -> x.puzzle(1, c), NONE, -1, 3, 11, LEAST, GREATEST);
        each("cell, by 2", c -> x.puzzle(2, c), NONE, -1, 3, 11, LEAST, GREATEST);
        each("none by 1", c -> laid("6=6").puzzle(1, c), NONE, 0, 1, 2);
        each("not TRUE", k -> laid("3=8").puzzle(k, 0), NONE, 1, 2);
        each("no worth", k -> laid("1/0=1").puzzle(k, 0), NONE, 1, 2);
        each("without CELLS", k -> new StickSums().puzzle(k, 0), NONE, 0, 1, 2, 3);
        StickSums y = laid("9=9");
        y.stick(0, 0, false);
        each("SAYS none", k -> y.puzzle(k, 0), NONE, 1, 2);

        sentence(24, "the first 200 of them are looked at");
        StickSums inside = laid("8/9=6/67");
        due("the 200th", read(inside, c -> inside.puzzle(2, c)), "8/3=6+67");
        StickSums back = laid("8/3=6+67");
        due("just one TRUE ROW is MOVED by 2", back.isTrue() * 10 + back.mends(2, 2), 1);
        due("and that is THE ROW", read(back, c -> back.mend(2, 2, 0, c)), "8/9=6/67");
        StickSums outside = laid("66/97/5=0");
        each("the 201st", c -> outside.puzzle(2, c), NONE, 0, 1, 8);
    }

    // promises 25 and 26

    private static void turnedTests() {
        sentence(25, "What a CELL reads as THE ROW is TURNED (way 0 .. 2); NONE if it is no WAY, or one can't be.");
        StickSums x = laid("1234+567=89");
        due("upside down", read(x, c -> x.turned(0, c)), "68=.95+..2.");
        due("upright mirror", read(x, c -> x.turned(1, c)), ".8=..2+..5.");
        due("lying mirror", read(x, c -> x.turned(2, c)), "153.+2..=8.");
        for (int way = 0; way <= 2; way++) {
            int by = way;
            each("way " + way + ", cell", c -> x.turned(by, c), NONE, -1, 11, LEAST, GREATEST);
            due("without CELLS", new StickSums().turned(way, 0), NONE);
        }
        each("way", w -> x.turned(w, 2), NONE, -1, 3, LEAST, GREATEST);
        due("THE ROW stays", row(x), "1234+567=89");
        StickSums s = laid("0*0/0-0+0=0");
        due("upside down", read(s, c -> s.turned(0, c)), "0=0+0-0/0*0");
        due("upright mirror", read(s, c -> s.turned(1, c)), "0=0+0-0.0*0");
        due("lying mirror", read(s, c -> s.turned(2, c)), "0*0.0-0+0=0");
        s.stick(3, 4, false);
        s.stick(3, 3, true);
        due("a falling stick is / in mirrors", "" + (char) s.turned(1, 7) + (char) s.turned(2, 3), "//");

        sentence(26, "isTrue() of it as it is TURNED; NONE likewise.");
        StickSums y = laid("9-6=3");
        each("3 upside down", y::turnedTrue, NONE, 0, 1, 2);
        lay(y, "0=8-8");
        each("TRUE", y::turnedTrue, 1, 0, 1, 2);
        each("turnedTrue", y::turnedTrue, NONE, -1, 3, LEAST, GREATEST);
        lay(y, "0=8-0");
        each("not TRUE", y::turnedTrue, 0, 0, 1, 2);
        lay(y, "10=1");
        due("a first 0 in the other order", y.turnedTrue(1), NONE);
        lay(y, "80=8");
        each("08 is no number", y::turnedTrue, NONE, 0, 1);
        due("80=8", y.turnedTrue(2), 0);
        each("without CELLS", new StickSums()::turnedTrue, NONE, 0, 1, 2, -1, 3);
    }

    // promises 27 to 29

    private static void seenTests() {
        sentence(27, "SEEN: its number; NONE, doing nothing, if there is no such PLACE");
        StickSums x = laid("1+8=9");
        due("PLACE 0", x.seen(0, 0, true), 0);
        due("PLACE 6", x.seen(4, 6, false), 1);
        due("PLACE 4 of a SIGN", x.seen(1, 4, false), 2);
        each("PLACE", p -> x.seen(0, p, true), NONE, -1, 7, 8, LEAST, GREATEST);
        each("PLACE of a SIGN", p -> x.seen(1, p, true), NONE, -1, 5, 6, 7, LEAST, GREATEST);
        each("CELL", c -> x.seen(c, 0, true), NONE, -1, 5, 11, LEAST, GREATEST);
        due("SEEN", x.about(3), 3);
        due("the next number", x.seen(0, 0, true), 3);
        due("without CELLS", new StickSums().seen(0, 0, true), NONE);

        sentence(27, "or there are 60");
        for (int i = 4; i < 60; i++) {
            due("number " + i, x.seen(0, 1, true), i);
        }
        due("the 61st", x.seen(0, 1, true), NONE);
        due("the 61st, none there", x.seen(0, 5, false), NONE);
        due("SEEN", x.about(3), 60);
        x.untell(0);
        due("UNTOLD leave no room", x.seen(0, 1, true), NONE);
        lay(x, "1=1");
        due("none with another ROW", x.about(3), 0);
        due("the first again", x.seen(0, 0, true), 0);

        sentence(28, "It is UNTOLD: true; false if it is so already, or there is none such.");
        StickSums y = laid("1=1");
        due("none", y.untell(0), false);
        y.seen(0, 0, true);
        y.seen(0, 1, true);
        each("untell", s -> as(y.untell(s)), 0, -1, 2, 59, 60, LEAST, GREATEST);
        due("the last", y.untell(1), true);
        due("already", y.untell(1), false);
        y.later(5);
        due("already, later", y.untell(1), false);
        due("the first", y.untell(0), true);
        due("SEEN", y.about(3), 2);
        due("without CELLS", new StickSums().untell(0), false);

        laterTests();
    }

    private static void laterTests() {
        sentence(29, "So much later (0 .. 1000): the TIME; NONE, doing nothing, for another number");
        StickSums x = new StickSums();
        due("0", x.later(0), 0);
        due("1", x.later(1), 1);
        due("999", x.later(999), 1000);
        due("1000", x.later(1000), 2000);
        each("later", x::later, NONE, -1, 1001, LEAST, GREATEST);
        due("TIME", x.about(4), 2000);

        sentence(29, "or if it would be above 100,000");
        for (int i = 3; i <= 99; i++) {
            due("1000", x.later(1000), 1000 * i);
        }
        due("to 99,999", x.later(999), 99999);
        each("above", x::later, NONE, 2, 1000, 1001, -1, LEAST, GREATEST);
        due("TIME", x.about(4), 99999);
        due("to 100,000", x.later(1), 100000);
        each("above", x::later, NONE, 1, 2, 1000, GREATEST);
        due("0", x.later(0), 100000);

        sentence(29, "a TIME (0 at first, goes on)");
        due("0 at first", new StickSums().about(4), 0);
        lay(x, "1=1");
        due("another ROW", x.about(4), 100000);
        x.keep(0);
        x.back(0);
        due("a ROW from a BOX", x.about(4), 100000);
        forms(x, "");
        due("FORMS", x.about(4), 100000);
    }

    // promises 30 and 31

    private static void couldTests() {
        sentence(30, "AS KNOWN at k those count that were TOLD at k or before, and not UNTOLD at k or before");
        StickSums x = laid("7=7");
        x.later(10);
        x.seen(0, 0, false);
        x.later(10);
        x.untell(0);
        int[] times = {LEAST, -1, 0, 9, 10, 11, 19, 20, 21, 100000, 100001, GREATEST};
        int[] counts = {10, 10, 10, 10, 2, 2, 2, 10, 10, 10, 10, 10};
        for (int i = 0; i < times.length; i++) {
            due("could " + times[i], x.could(times[i]), counts[i]);
        }
        StickSums same = laid("7=7");
        same.later(10);
        same.seen(0, 0, false);
        due("TOLD", same.could(10), 2);
        same.untell(0);
        each("UNTOLD at the same TIME", same::could, 10, 9, 10, 11, LEAST, GREATEST);
        StickSums again = laid("7=7");
        due("asked before", again.could(0), 10);
        again.seen(0, 0, false);
        due("asked behind seen", again.could(0), 2);
        again.untell(0);
        due("asked behind untell", again.could(0), 10);
        StickSums first = laid("7=7");
        first.seen(0, 0, false);
        each("TOLD at 0", first::could, 2, 0, 1, GREATEST);
        each("before 0", first::could, 10, -1, LEAST);

        sentence(30, "a stick had lain at first, or none");
        StickSums hands = laid("7=7");
        hands.stick(0, 0, false);
        due("hands change nothing", hands.could(0), 10);
        hands.seen(0, 4, true);
        hands.seen(2, 6, false);
        due("0 alone", hands.could(0), 1);
        due("0=0", read(hands, c -> hands.couldBe(0, 0, c)), "0=0");
        hands.seen(2, 6, true);
        due("against one another", hands.could(0), 0);

        sentence(30, "(SEEN are none then)");
        StickSums stale = laid("7=7");
        stale.seen(0, 0, false);
        stale.seen(2, 0, false);
        due("SEEN", stale.could(0), 2);
        lay(stale, "7=7");
        each("none with another ROW", stale::could, 10, 0, 1, GREATEST);
        stale.seen(0, 4, true);
        due("one alone", stale.could(0), 4);
        stale.keep(0);
        stale.back(0);
        each("none with a ROW from a BOX", stale::could, 10, 0, 1, GREATEST);

        sentence(30, "NONE without CELLS");
        each("without CELLS", new StickSums()::could, NONE, -1, 0, 1, LEAST, GREATEST);

        couldSpent();
        couldBeTests();
    }

    /** The SUMS 1+1=11 may have been that are TRUE, its first CELL having a top stick. */
    private static int countLikeElevens() {
        int all = 0;
        int[] top = {0, 2, 3, 5, 6, 7, 8, 9};
        for (int a : top) {
            for (int b = 0; b < 10; b++) {
                for (int cd = 10; cd < 100; cd++) {
                    for (int s = 0; s < 4; s++) {
                        all += joined(a, s, b) == cd ? 1 : 0;
                        all += joined(b, s, cd) == a ? 1 : 0;
                    }
                }
            }
        }
        return all;
    }

    private static void couldSpent() {
        sentence(30, "SPENT, if the WAYS of its CELLS that are as these SEEN, multiplied, are more than 200,000.");
        StickSums x = laid("1+1=11");
        due("10 by 4, 5 by 2", x.could(0), SPENT);
        x.later(1);
        x.seen(0, 2, true);
        due("9 by 1 (all but 2)", x.could(1), SPENT);
        x.later(1);
        x.untell(0);
        x.seen(0, 0, true);
        due("8 by 1 (all but 1, 4): 200,000", x.could(2), countLikeElevens());
        due("as known before", x.could(1), SPENT);
        due("as known before", x.could(0), SPENT);
        x.untell(1);
        due("UNTOLD", x.could(2), SPENT);
        StickSums y = told(twentyWays(), "1+1=1");
        int sum = 0;
        for (int n : bySticks(y)) {
            sum += n;
        }
        due("20 by 3, 5 by 2: 200,000", y.could(0), sum);
        StickSums z = laid(ELEVEN);
        z.seen(0, 0, true);
        z.seen(0, 0, false);
        due("no WAY is as SEEN", z.could(0), 0);
    }

    private static void couldBeTests() {
        sentence(31, "What a CELL of the i-th of them reads; NONE if there is none such.");
        StickSums x = laid("7=7");
        due("the first", read(x, c -> x.couldBe(0, 0, c)), "0=0");
        due("the last", read(x, c -> x.couldBe(0, 9, c)), "9=9");
        each("i", i -> x.couldBe(0, i, 0), NONE, -1, 10, 255, 256, LEAST, GREATEST);
        due("the first again", x.couldBe(0, 0, 0), '0');
        each("cell", c -> x.couldBe(0, 0, c), NONE, -1, 3, 11, LEAST, GREATEST);
        x.seen(0, 0, false);
        each("k", k -> x.couldBe(k, 0, 0), '1', 0, 1, GREATEST);
        each("k", k -> x.couldBe(k, 0, 0), '0', -1, LEAST);
        each("i", i -> x.couldBe(0, i, 0), NONE, -1, 2, 9, LEAST, GREATEST);
        x.seen(0, 0, true);
        due("none", x.couldBe(0, 0, 0), NONE);
        due("SPENT", laid("1+1=11").couldBe(0, 0, 0), NONE);
        due("without CELLS", new StickSums().couldBe(0, 0, 0), NONE);
        StickSums y = laid("1+1=1");
        int all = y.could(0);
        each("one of many", i -> y.couldBe(0, i, 0) == NONE ? NONE : 1, 1, 0, 255, 256, 257, all - 1);
        each("one of many", i -> y.couldBe(0, i, 0), NONE, -1, all, all + 1, LEAST, GREATEST);
    }

    // promise 32

    private static void nextTests() {
        sentence(32, "NEXT as known at k what 0: the CELL, 1: the PLACE; NONE for another what");
        StickSums x = laid("7=7");
        due("CELL", x.next(0, 0), 0);
        due("PLACE", x.next(0, 1), 4);
        each("what", w -> x.next(0, w), NONE, -1, 2, LEAST, GREATEST);
        each("k", k -> x.next(k, 1), 4, LEAST, -1, 0, 1, GREATEST);

        sentence(32, "NONE if less than two COULD BE");
        x.later(1);
        x.seen(0, 0, false);
        due("two", x.could(1), 2);
        due("two", x.next(1, 0) * 10 + x.next(1, 1), 5);
        due("ten, as known before", x.next(0, 0) * 10 + x.next(0, 1), 4);
        x.later(1);
        x.seen(0, 5, false);
        due("one", x.could(2), 1);
        each("one", w -> x.next(2, w), NONE, 0, 1);
        x.later(1);
        x.seen(0, 2, false);
        due("none", x.could(3), 0);
        each("none", w -> x.next(3, w), NONE, 0, 1);

        sentence(32, "the greater part of them is least; of like ones the first");
        StickSums y = laid("1=1/1");
        for (int c = 0; c <= 4; c += 2) {
            for (int p = 0; p < 7; p++) {
                y.seen(c, p, p == 1 || p == 2);
            }
        }
        due("1=1*1, 1=1/1, 1*1=1, 1/1=1", y.could(0), 4);
        due("two and two by the bar of the first SIGN", y.next(0, 0) * 10 + y.next(0, 1), 10);
        y.seen(1, 0, false);
        due("1*1=1, 1/1=1", y.could(0), 2);
        due("one and one by its falling stick", y.next(0, 0) * 10 + y.next(0, 1), 13);

        StickSums first = laid("1=1");
        first.seen(0, 3, false);
        first.seen(0, 6, false);
        due("1=1, 7=7", first.could(0), 2);
        due("by the very first PLACE", first.next(0, 0) * 10 + first.next(0, 1), 0);
        StickSums last = laid("1=1-0");
        for (int c = 0; c <= 3; c++) {
            for (int p = 0; p < (c % 2 == 0 ? 7 : 5); p++) {
                boolean figure = c % 2 == 0;
                last.seen(c, p, figure ? p == 1 || p == 2 : c == 1 ? p == 0 || p == 2 : p == 4);
            }
        }
        due("1=1/1", last.could(0), 1);
        last.untell(22);
        due("1=1/1, 1=1*1", last.could(0), 2);
        due("by the falling stick of the second SIGN", last.next(0, 0) * 10 + last.next(0, 1), 33);
        due("all, as known before", last.next(-1, 0) * 10 + last.next(-1, 1) >= 0, true);
        due("and again as known at 0", last.next(0, 0) * 10 + last.next(0, 1), 33);

        sentence(32, "without CELLS, or for another what; -2 if SPENT.");
        StickSums n = new StickSums();
        each("without CELLS", w -> n.next(0, w), NONE, 0, 1, -1, 2, LEAST, GREATEST);
        StickSums z = laid("1+1=11");
        each("SPENT", w -> z.next(0, w), SPENT, 0, 1);
        each("SPENT, what", w -> z.next(0, w), NONE, -1, 2, LEAST, GREATEST);
        z.seen(0, 0, true);
        due("200,000", z.next(0, 0) != SPENT && z.next(0, 0) != NONE, true);
        each("as known before", k -> z.next(k, 0), SPENT, -1, LEAST);
    }

    // promises 33 and 34

    private static void numeralTests() {
        sentence(33, "With so many sticks (1 .. 35); NONE if one can't be");
        StickSums x = new StickSums();
        StickSums one = new StickSums();
        forms(one, "digit 5 as 1;");
        due("1 stick", one.extreme(1, 1, false), 5);
        due("35 sticks", x.extreme(35, 5, false), 88888);
        each("sticks, least", n -> x.extreme(n, 5, false), NONE, -1, 0, 36, 37, LEAST, GREATEST);
        each("sticks, greatest", n -> x.extreme(n, 5, true), NONE, -1, 0, 36, 37, 64, LEAST, GREATEST);
        each("0 sticks", f -> one.extreme(0, f, true), NONE, 0, 1);

        sentence(33, "just so many FIGURES (1 .. 5)");
        due("1 FIGURE", x.extreme(7, 1, true), 8);
        due("5 FIGURES", x.extreme(10, 5, true), 11111);
        each("figures, least", f -> x.extreme(12, f, false), NONE, -1, 0, 6, LEAST, GREATEST);
        each("figures, greatest", f -> x.extreme(12, f, true), NONE, -1, 0, 6, LEAST, GREATEST);
        due("both", x.extreme(36, 6, true), NONE);
        due("both", x.extreme(LEAST, GREATEST, false), NONE);

        sentence(33, "NONE if there is none");
        due("1 stick", x.extreme(1, 1, true), NONE);
        due("8 sticks, 1 FIGURE", x.extreme(8, 1, true), NONE);
        due("9 sticks, 5 FIGURES", x.extreme(9, 5, false), NONE);
        due("3 sticks, 2 FIGURES", x.extreme(3, 2, true), NONE);
        due("29 sticks, 4 FIGURES", x.extreme(29, 4, true), NONE);
        due("28 sticks, 4 FIGURES", x.extreme(28, 4, true), 8888);
        due("34 sticks", x.extreme(34, 5, false), 68888);
        due("34 sticks", x.extreme(34, 5, true), 98888);
        due("11 sticks, 5 FIGURES: the least", x.extreme(11, 5, false), 11117);
        due("11 sticks, 5 FIGURES: the greatest", x.extreme(11, 5, true), 71111);

        sentence(33, "(none behind a first 0)");
        due("0 by itself", x.extreme(6, 1, false), 0);
        due("10, not 01", x.extreme(8, 2, false), 10);
        StickSums zero = new StickSums();
        forms(zero, "digit 0 as 1;");
        due("0", zero.extreme(1, 1, true), 0);
        due("not 00", zero.extreme(2, 2, true), NONE);
        due("10", zero.extreme(3, 2, false), 10);
        due("not 00000", zero.extreme(5, 5, true), NONE);
        due("10000", zero.extreme(6, 5, true), 10000);

        numbersTests(x, one, zero);
    }

    private static void numbersTests(StickSums x, StickSums one, StickSums zero) {
        sentence(34, "How many numbers they lay; NONE if one can't be.");
        due("1 stick", one.numbers(1, 1), 1);
        due("35 sticks", x.numbers(35, 5), 1);
        due("34 sticks", x.numbers(34, 5), 14);
        each("sticks", n -> x.numbers(n, 5), NONE, -1, 0, 36, 37, 64, LEAST, GREATEST);
        each("figures", f -> x.numbers(12, f), NONE, -1, 0, 6, LEAST, GREATEST);
        due("both", x.numbers(LEAST, GREATEST), NONE);
        due("none", x.numbers(1, 1), 0);
        due("none", x.numbers(9, 5), 0);
        due("none", x.numbers(35, 1), 0);
        due("none", x.numbers(8, 1), 0);
        due("10 sticks: 11111", x.numbers(10, 5), 1);
        due("11 sticks: a 7 and four 1", x.numbers(11, 5), 5);

        due("asked before all else", new StickSums().numbers(35, 5), 1);
        sentence(34, "each by a WAY (a number that can be laid in two ways is one)");
        String sets = "digit 0 as 1;digit 1 as 3;digit 2 as 7;digit 3 as 15;digit 4 as 31;digit 5 as 63;digit 6 as 127;"
            + "digit 7 as 2 or 5;digit 8 as 4 or 11;digit 9 as 6 or 23;";
        String[] texts = {"", twentyWays(), sets, "digit 1 as 6 or 2;digit 7 as 7 or 1;digit 4 as 4;"};
        for (String text : texts) {
            StickSums y = new StickSums();
            forms(y, text);
            int[] counts = stickCounts(y);
            for (int n = 0; n < 3 * 22; n++) {
                int sticks = 1 + n % 22;
                int figures = 1 + n / 22;
                due("numbers " + sticks + " " + figures + " of '" + text + "'", y.numbers(sticks, figures),
                    countNumbers(counts, sticks, figures));
            }
        }

        sentence(34, "(none behind a first 0)");
        due("0 6 9", x.numbers(6, 1), 3);
        due("not 00", zero.numbers(2, 2), 0);
        due("10, not 01", zero.numbers(3, 2), 1);
        for (int figures = 1; figures <= 5; figures++) {
            int all = 0;
            for (int sticks = 1; sticks <= 35; sticks++) {
                all += x.numbers(sticks, figures);
            }
            int[] due = {10, 90, 900, 9000, 90000};
            due("all of " + figures, all, due[figures - 1]);
        }
    }

    /** The counts of sticks, as bits, that each digit can have. */
    private static int[] stickCounts(StickSums x) {
        int[] counts = new int[10];
        for (int d = 0; d < 10; d++) {
            int second = x.way(d, 1);
            counts[d] = 1 << Integer.bitCount(x.way(d, 0)) | (second == NONE ? 0 : 1 << Integer.bitCount(second));
        }
        return counts;
    }

    private static int countNumbers(int[] counts, int sticks, int figures) {
        int from = figures == 1 ? 0 : figures == 2 ? 10 : 100;
        int to = figures == 1 ? 10 : from * 10;
        int all = 0;
        for (int n = from; n < to; n++) {
            all += as(canLay(n, figures, sticks, counts));
        }
        return all;
    }

    private static boolean canLay(int number, int figures, int sticks, int[] counts) {
        if (figures == 0) {
            return sticks == 0;
        }
        for (int by = 1; by <= 7 && by <= sticks; by++) {
            if ((counts[number % 10] >> by & 1) == 1 && canLay(number / 10, figures - 1, sticks - by, counts)) {
                return true;
            }
        }
        return false;
    }

    // promises 35 and 36

    private static void takingTests() {
        sentence(35, "GRUNDY of a CELL of THE ROW (0 if it is left alone); NONE if there is none such.");
        StickSums x = laid("1234=567");
        int[] grundies = {0, 0, 2, 1, 0, 0, 1, 1};
        for (int c = 0; c < grundies.length; c++) {
            due("grundy " + c, x.grundy(c), grundies[c]);
        }
        each("grundy", x::grundy, NONE, -1, 8, 11, LEAST, GREATEST);
        lay(x, "890=0");
        due("8 9 0", x.grundy(0) * 100 + x.grundy(1) * 10 + x.grundy(2), 432);
        due("a SIGN", x.grundy(3), 0);
        each("grundy", x::grundy, NONE, -1, 5, LEAST, GREATEST);
        each("without CELLS", new StickSums()::grundy, NONE, -1, 0, LEAST, GREATEST);
        x.stick(0, 6, false);
        x.stick(0, 0, false);
        due("no WAY is left alone", x.grundy(0), 0);
        x.stick(3, 0, false);
        due("no sign", x.grundy(3), 0);
        StickSums bare = laid("1=1");
        bare.stick(0, 1, false);
        bare.stick(0, 2, false);
        due("no sticks", bare.grundy(0), 0);

        sentence(35, "one or more sticks, so that its rest is a WAY of a digit");
        StickSums y = told("digit 1 as 6 or 2;digit 4 as 4 or 102;", "1=4");
        due("6 to 2 or to 4", y.grundy(0), 1);
        due("4 to none", y.grundy(2), 0);
        StickSums zero = told("digit 0 as 2;", "1=0");
        due("1 to 0", zero.grundy(0), 1);
        due("0 to none", zero.grundy(2), 0);

        sentence(36, "How one WINS what 0: the CELL, 1: the digit that is there then; NONE for another what.");
        StickSums z = laid("1=7");
        due("CELL", z.wins(0), 2);
        due("digit", z.wins(1), 1);
        each("what", z::wins, NONE, -1, 2, LEAST, GREATEST);

        sentence(36, "NONE if one does not");
        each("0 of 1 and 1", laid("1=1")::wins, NONE, 0, 1);
        each("1 of 7 and 1 of 4 are 0", laid("7=4")::wins, NONE, 0, 1);
        each("without CELLS", new StickSums()::wins, NONE, 0, 1, -1, 2, LEAST, GREATEST);
        StickSums none = laid("7=1");
        none.stick(0, 6, true);
        each("no WAY is left alone", none::wins, NONE, 0, 1);

        sentence(36, "by the first FIGURE, then the least digit, then its WAYS, by which it becomes 0");
        StickSums w = laid("9=9+1");
        each("3 and 3", w::wins, NONE, 0, 1);
        lay(w, "9=9+7");
        due("3 3 1: 9 to one of 2", w.wins(0) * 10 + w.wins(1), 3);
        lay(w, "8=1");
        due("8 to 1, not to 2 or 5", w.wins(0) * 10 + w.wins(1), 1);
        lay(w, "1=88");
        each("4 and 4", w::wins, NONE, 0, 1);
        due("1 to 0", zero.wins(0) * 10 + zero.wins(1), 0);
        lay(w, "7=8+8");
        due("7 to 1 of 1 4 4", w.wins(0) * 10 + w.wins(1), 1);
    }

    // promises 37 and 38

    private static void actTests() {
        sentence(37, "The latest ACT is taken back: true; false if there is none that is kept.");
        due("without CELLS", new StickSums().undo(), false);
        StickSums x = laid("8=8");
        due("none", x.undo(), false);
        x.stick(0, 0, false);
        due("one", x.undo(), true);
        due("none more", x.undo(), false);
        due("cell", x.cell(0), 127);

        sentence(37, "At most 100 are kept (of the 101st on the first is kept no more, and stays done).");
        int[] acts = {99, 100, 101, 102};
        for (int n : acts) {
            StickSums y = laid("8=8");
            for (int i = 0; i < n; i++) {
                y.stick(i == 0 ? 0 : 2, i == 0 ? 0 : 3, i > 0 && i % 2 == 0);
            }
            int kept = Math.min(n, 100);
            due(n + " ACTS", y.about(6), kept);
            int back = 0;
            while (back < 110 && y.undo()) {
                back++;
            }
            due(n + " ACTS taken back", back, kept);
            due("the first " + (n > 100 ? "stays done" : "is taken back"), y.cell(0), n > 100 ? 126 : 127);
            due("the second", y.cell(2), n > 101 ? 119 : 127);
            due("ACTS", y.about(6), 0);
            due("redo", y.redo(), true);
        }

        sentence(37, "FORMS and another ROW leave none.");
        for (int how = 0; how < 3; how++) {
            StickSums z = laid("8=8");
            z.keep(0);
            z.stick(0, 0, false);
            z.stick(0, 1, false);
            z.undo();
            int done = how == 0 ? lay(z, "8=8") : how == 1 ? z.back(0) : forms(z, "");
            due("done", done, how == 2 ? 0 : 3);
            due("ACTS", z.about(6), 0);
            due("undo", z.undo(), false);
            due("redo", z.redo(), false);
        }

        redoTests();
    }

    private static void redoTests() {
        sentence(38, "The ACT taken back last is done again: true; false if there is none.");
        due("without CELLS", new StickSums().redo(), false);
        StickSums x = laid("8=8");
        due("none", x.redo(), false);
        x.stick(0, 0, false);
        due("none taken back", x.redo(), false);
        x.stick(0, 1, false);
        x.undo();
        x.undo();
        due("that taken back last", x.redo(), true);
        due("cell", x.cell(0), 126);
        due("the other", x.redo(), true);
        due("cell", x.cell(0), 124);
        due("none more", x.redo(), false);
        due("ACTS", x.about(6), 2);

        StickSums asked = laid("9=9");
        goal(asked, "9=9");
        due("before", asked.mends(0, 0) * 100 + (asked.steps() + 1) * 10 + as(asked.puzzle(1, 0) == '3'), 111);
        asked.stick(0, 0, false);
        due("behind stick", asked.mends(0, 0) * 100 + (asked.steps() + 1) * 10 + as(asked.puzzle(1, 0) == '3'), 0);
        asked.undo();
        due("behind undo", asked.mends(0, 0) * 100 + (asked.steps() + 1) * 10 + as(asked.puzzle(1, 0) == '3'), 111);
        asked.redo();
        due("behind redo", asked.mends(0, 0) * 100 + (asked.steps() + 1) * 10 + as(asked.puzzle(1, 0) == '3'), 0);

        sentence(38, "those are gone with a new ACT");
        x.undo();
        due("a call that does nothing is no ACT", x.stick(0, 0, false), false);
        x.seen(0, 0, true);
        x.keep(0);
        due("ACTS taken back", x.redo(), true);
        x.undo();
        due("a new ACT", x.stick(0, 1, false), true);
        due("gone", x.redo(), false);

        sentence(38, "At most 100 are kept");
        StickSums y = laid("8=8");
        for (int i = 0; i < 101; i++) {
            y.stick(0, 0, i % 2 == 1);
        }
        for (int i = 0; i < 50; i++) {
            y.undo();
        }
        due("50 not taken back", y.about(6), 50);
        y.stick(2, 0, false);
        due("51", y.about(6), 51);
        due("gone", y.redo(), false);
        int back = 0;
        while (back < 110 && y.undo()) {
            back++;
        }
        due("51 taken back", back, 51);
        due("the first stays done", y.cell(0), 126);
        int again = 0;
        while (again < 110 && y.redo()) {
            again++;
        }
        due("51 done again", again, 51);
        due("cell", y.cell(2), 126);
    }

    // promises 39 to 41

    private static void boxTests() {
        sentence(39, "THE ROW is kept in a BOX: how many CELLS; NONE if there is none such, or without CELLS.");
        StickSums x = laid(ELEVEN);
        each("keep", x::keep, 11, 0, 1, 2);
        each("no BOX", x::keep, NONE, -1, 3, LEAST, GREATEST);
        due("row", row(x), ELEVEN);
        StickSums n = new StickSums();
        each("without CELLS", n::keep, NONE, 0, 1, 2, -1, 3, LEAST, GREATEST);
        each("nothing was kept", n::back, NONE, 0, 1, 2);
        StickSums y = busy();
        String before = state(y);
        y.keep(0);
        due("nothing else", state(y), before);
        due("redo", y.redo(), true);

        sentence(39, "BOXES 0 .. 2 keep THE ROW (sticks and all)");
        StickSums z = laid("1=1");
        z.keep(0);
        z.stick(0, 0, true);
        z.keep(1);
        z.stick(0, 1, false);
        z.keep(2);
        z.stick(0, 2, false);
        due("BOX 0", z.back(0) * 1000 + z.cell(0), 3006);
        due("BOX 1", z.back(1) * 1000 + z.cell(0), 3007);
        due("BOX 2", z.back(2) * 1000 + z.cell(0), 3005);
        lay(z, ELEVEN);
        z.keep(0);
        due("a shorter one from a BOX", z.back(1), 3);
        due("no CELL of the longer one", z.cell(3), NONE);
        due("a longer one from a BOX", z.back(0), 11);
        due("row", row(z), ELEVEN);

        sentence(40, "THE ROW is as it was kept (SEEN are none then); as it is brought back it is another ROW");
        StickSums w = busy();
        due("back", w.back(1), 5);
        due("row", row(w), "12=12");
        due("GOAL", w.about(2), 5);
        due("SEEN, TIME, ACTS", w.about(3) * 100 + w.about(4) * 10 + w.about(6), 30);
        due("undo or redo", w.undo() || w.redo(), false);
        due("kept still", w.back(1), 5);

        sentence(40, "NONE, doing nothing, if nothing was.");
        StickSums e = busy();
        String old = state(e);
        each("back", e::back, NONE, 0, 2, -1, 3, LEAST, GREATEST);
        due("state", state(e), old);
        due("redo", e.redo(), true);
        due("untell", e.untell(0), true);
        forms(e, "digit 1 as 0;");
        due("FORMS with a FAULT leave BOXES", e.back(1), 5);
        forms(e, "");
        each("FORMS empty them", e::back, NONE, 0, 1, 2);
    }

    private static void aboutTests() {
        sentence(41, "What 0: CELLS of THE ROW ... 7: units of WANTED. NONE for another what.");
        StickSums x = busy();
        x.feed(0, 0, 0, 0, 0);
        int[] all = {5, 17, 5, 1, 3, 20, 1, 2};
        for (int what = 0; what < all.length; what++) {
            due("about " + what, x.about(what), all[what]);
        }
        each("about", x::about, NONE, -1, 8, LEAST, GREATEST);
        each("a new object", new StickSums()::about, 0, 0, 1, 2, 3, 4, 5, 6, 7);
        each("a new object", new StickSums()::about, NONE, -1, 8, LEAST, GREATEST);

        sentence(41, "The constants: NONE = -1");
        due("NONE", StickSums.NONE, -1);
    }

    // all calls, with whatever arguments, in whatever state

    private static void anyArguments() {
        sentence(41, "no call may ever throw (LANGUAGE.md, rule 7)");
        int[] numbers = {LEAST, LEAST + 1, -300, -2, -1, 0, 1, 2, 3, 4, 5, 6, 7, 8, 9, 10, 11, 12, 35, 36, 59, 60, 61,
            77, 78, 127, 128, 255, 256, 1000, 1001, 100000, GREATEST - 1, GREATEST};
        String[] texts = {"1=1", "6+4=4", ELEVEN, "0*0=0", "1/0=1", "12-3=9", "digit 7 as 39 or 7;", "left>0", "", "#"};
        for (int run = 0; run < 300; run++) {
            Random dice = new Random(run);
            StickSums x = new StickSums();
            int calls = 0;
            try {
                while (calls < 480) {
                    if (dice.nextInt(6) == 0) {
                        write(x, texts[dice.nextInt(texts.length)]);
                        take(x, dice.nextInt(8) == 0 ? 0 : 1 + dice.nextInt(3));
                        calls += 5;
                    }
                    int[] a = new int[5];
                    for (int i = 0; i < 5; i++) {
                        boolean small = dice.nextInt(3) > 0;
                        a[i] = small ? dice.nextInt(6) : numbers[dice.nextInt(numbers.length)];
                    }
                    call(x, dice.nextInt(40), a, dice.nextBoolean());
                    calls++;
                }
            } catch (RuntimeException e) {
                due("run " + run + " threw " + e, 1, 0);
            }
        }
    }

    private static void call(StickSums x, int which, int[] a, boolean yes) {
        switch (which) {
            case 0: x.feed(a[0], a[1], a[2], a[3], a[4]); break;
            case 1: x.end(a[0]); break;
            case 2: x.forms(); break;
            case 3: x.lay(); break;
            case 4: x.goal(); break;
            case 5: x.wanted(); break;
            case 6: x.fault(a[0]); break;
            case 7: x.way(a[0], a[1]); break;
            case 8: x.cell(a[0]); break;
            case 9: x.stick(a[0], a[1], yes); break;
            case 10: x.says(a[0]); break;
            case 11: x.isTrue(); break;
            case 12: x.worth(a[0]); break;
            case 13: x.mends(a[0], a[1]); break;
            case 14: x.mend(a[0], a[1], a[2], a[3]); break;
            case 15: x.least(); break;
            case 16: x.shape(a[0]); break;
            case 17: x.shaped(a[0], a[1], a[2]); break;
            case 18: x.bound(yes); break;
            case 19: x.apart(a[0]); break;
            default: callMore(x, which, a, yes); break;
        }
    }

    private static void callMore(StickSums x, int which, int[] a, boolean yes) {
        switch (which) {
            case 20: x.steps(); break;
            case 21: x.step(a[0], a[1]); break;
            case 22: x.puzzle(a[0], a[1]); break;
            case 23: x.turned(a[0], a[1]); break;
            case 24: x.turnedTrue(a[0]); break;
            case 25: x.seen(a[0], a[1], yes); break;
            case 26: x.untell(a[0]); break;
            case 27: x.later(a[0]); break;
            case 28: x.could(a[0]); break;
            case 29: x.couldBe(a[0], a[1], a[2]); break;
            case 30: x.next(a[0], a[1]); break;
            case 31: x.extreme(a[0], a[1], yes); break;
            case 32: x.numbers(a[0], a[1]); break;
            case 33: x.grundy(a[0]); break;
            case 34: x.wins(a[0]); break;
            case 35: x.undo(); break;
            case 36: x.redo(); break;
            case 37: x.keep(a[0]); break;
            case 38: x.back(a[0]); break;
            default: x.about(a[0]); break;
        }
    }
}
