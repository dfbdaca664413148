/** Each promise of the document by itself: ordinary inputs, the edges that it names, wrong inputs. */
public final class PromiseTests {
    private static int wrong = 0;
    private static int promise = 0;

    public static void main(String[] args) {
        newObject();
        feedAndEnd();
        formsAreTold();
        formsFaults();
        tokensOfForms();
        layAndGoal();
        sumFaults();
        wantedIsTold();
        wantedFaults();
        wantedCounts();
        faultIsOfTheLatest();
        waysAndCells();
        sticksAndSays();
        truthAndWorth();
        mendsAndMend();
        leastMoves();
        shapes();
        apartAndSteps();
        puzzles();
        turnedRows();
        seenAndTimes();
        couldAndNext();
        extremes();
        grundies();
        undoAndRedo();
        boxes();
        aboutAll();
        System.out.println(wrong == 0 ? "all promises hold" : wrong + " answers are not as due");
        if (wrong != 0) {
            System.exit(1);
        }
    }

    private static void due(String call, long got, long want) {
        if (got != want) {
            wrong++;
            System.out.println("promise " + promise + ": " + call + " answered " + got + ", due is " + want);
        }
    }

    private static void due(String call, boolean got, boolean want) {
        due(call, got ? 1 : 0, want ? 1 : 0);
    }

    private static void due(String call, String got, String want) {
        if (!got.equals(want)) {
            wrong++;
            System.out.println("promise " + promise + ": " + call + " answered '" + got + "', due is '" + want + "'");
        }
    }

    private static void write(StickSums x, String text) {
        x.end(0);
        for (int from = 0; from < text.length(); from += 20) {
            int[] five = new int[5];
            for (int i = 0; i < 20; i++) {
                five[i / 4] = five[i / 4] << 8 | (from + i < text.length() ? text.charAt(from + i) : 0);
            }
            x.feed(five[0], five[1], five[2], five[3], five[4]);
        }
        x.end(text.length());
    }

    private static int forms(StickSums x, String text) {
        write(x, text);
        return x.forms();
    }

    private static int lay(StickSums x, String text) {
        write(x, text);
        return x.lay();
    }

    private static int goal(StickSums x, String text) {
        write(x, text);
        return x.goal();
    }

    private static int want(StickSums x, String text) {
        write(x, text);
        return x.wanted();
    }

    private static StickSums laid(String text) {
        StickSums x = new StickSums();
        due("lay " + text, lay(x, text), text.replaceAll("[ \n]", "").length());
        return x;
    }

    private interface Reader {
        int at(int cell);
    }

    private static String read(StickSums x, Reader reader) {
        StringBuilder b = new StringBuilder();
        for (int c = 0; c < x.about(0); c++) {
            int r = reader.at(c);
            b.append(r == StickSums.NONE ? '.' : (char) r);
        }
        return b.toString();
    }

    private static String row(StickSums x) {
        return read(x, x::says);
    }

    private static void newObject() {
        promise = 1;
        StickSums x = new StickSums();
        for (int what = 0; what <= 7; what++) {
            due("about " + what, x.about(what), 0);
        }
        int[] first = {63, 6, 91, 79, 102, 109, 125, 7, 127, 111};
        for (int d = 0; d < 10; d++) {
            due("way " + d, x.way(d, 0), first[d]);
            due("way " + d, x.way(d, 1), -1);
        }
        due("apart", x.apart(0), -1);
        due("steps", x.steps(), -1);
        due("step", x.step(0, 0), -1);
        due("puzzle", x.puzzle(1, 0), -1);
        due("turned", x.turned(0, 0), -1);
        due("turnedTrue", x.turnedTrue(0), -1);
        due("seen", x.seen(0, 0, true), -1);
        due("untell", x.untell(0), false);
        due("could", x.could(0), -1);
        due("couldBe", x.couldBe(0, 0, 0), -1);
        due("next", x.next(0, 0), -1);
        due("shape", x.shape(0), -1);
        due("shaped", x.shaped(0, 0, 0), -1);
        due("bound", x.bound(true), -1);
        due("mends", x.mends(0, 0), -1);
        due("mend", x.mend(0, 0, 0, 0), -1);
        due("least", x.least(), -1);
        due("grundy", x.grundy(0), -1);
        due("wins", x.wins(0), -1);
        due("undo", x.undo(), false);
        due("redo", x.redo(), false);
        due("keep", x.keep(0), -1);
        due("back", x.back(0), -1);
        due("worth", x.worth(0), -2000000000);
        due("isTrue", x.isTrue(), -1);
        due("two objects", lay(x, "1=1"), 3);
        due("two objects", new StickSums().about(0), 0);
    }

    private static void feedAndEnd() {
        promise = 2;
        StickSums x = new StickSums();
        for (int i = 1; i <= 15; i++) {
            due("feed " + i, x.feed(-1, Integer.MIN_VALUE, Integer.MAX_VALUE, 0, i), 20 * i);
        }
        due("feed past 300", x.feed(0, 0, 0, 0, 0), -1);
        due("about 5", x.about(5), 300);
        due("end 281", x.end(281), 281);
        due("feed past 300", x.feed(0, 0, 0, 0, 0), -1);
        due("about 5", x.about(5), 281);
        due("end 280", x.end(280), 280);
        due("feed to 300", x.feed(0, 0, 0, 0, 0), 300);
        x.end(0);
        x.feed(0x20202031, 0x2b20312b, 0x0a313d33, 0, 0);
        x.end(12);
        due("highest byte first", x.lay(), 7);
        due("highest byte first", row(x), "1+1+1=3");
        promise = 3;
        x.feed(0x313d3100, 0, 0, 0, 0);
        due("end 21", x.end(21), -1);
        due("end -1", x.end(-1), -1);
        due("end least", x.end(Integer.MIN_VALUE), -1);
        due("about 5", x.about(5), 20);
        due("end 20", x.end(20), 20);
        due("end 3", x.end(3), 3);
        due("end 4", x.end(4), -1);
        due("lay", x.lay(), 3);
        due("end 0", x.end(0), 0);
        due("end 1", x.end(1), -1);
    }

    private static void formsAreTold() {
        promise = 4;
        StickSums x = laid("1+1=2");
        goal(x, "1+1=2");
        want(x, "left>0");
        x.keep(0);
        x.stick(0, 0, true);
        x.later(5);
        x.seen(0, 0, true);
        due("two lines", forms(x, " digit 7 as 39 ;\ndigit 6 as 125 or 124;"), 2);
        due("way 7 0", x.way(7, 0), 39);
        due("way 7 1", x.way(7, 1), -1);
        due("way 6 1", x.way(6, 1), 124);
        due("ROW", x.about(0), 0);
        due("sticks", x.about(1), 0);
        due("GOAL", x.about(2), 0);
        due("SEEN", x.about(3), 0);
        due("TIME", x.about(4), 5);
        due("TAPE", x.about(5), 0);
        due("ACTS", x.about(6), 0);
        due("WANTED", x.about(7), 2);
        due("undo", x.undo(), false);
        due("BOX", x.back(0), -1);
        due("lay", lay(x, "7=6"), 3);
        due("first WAY", x.cell(0), 39);
        due("first WAY", x.cell(2), 125);
        due("other digits as at first", forms(x, "digit 1 as 2;"), 1);
        due("way 7", x.way(7, 0), 7);
        due("way 1", x.way(1, 0), 2);
        due("no lines", forms(x, " \n"), 0);
        due("way 1", x.way(1, 0), 6);
        due("own WAY, and another's that is told", forms(x, "digit 6 as 111;digit 9 as 125 or 127;digit 8 as 1;"), 3);
        due("way 9 1", x.way(9, 1), 127);
        due("leading zeros", forms(x, "digit 0001 as 0002;"), 1);
        due("not parted", forms(x, "digit1 as2 or127;digit 8 as3;"), 2);
        due("way 1 1", x.way(1, 1), 127);
        due("fault", x.fault(0), 0);
    }

    private static void badForms(String text, int fault, int place) {
        StickSums x = laid("1=1");
        forms(x, "digit 5 as 1;");
        lay(x, "5=5");
        goal(x, "5=5");
        x.keep(1);
        due("forms '" + text + "'", forms(x, text), -1);
        due("FAULT of '" + text + "'", x.fault(0), fault);
        due("place of '" + text + "'", x.fault(1), place);
        due("all stays", x.way(5, 0), 1);
        due("all stays", x.about(0), 3);
        due("all stays", x.about(2), 3);
        due("all stays", x.back(1), 3);
        due("TAPE is empty", x.about(5), 0);
    }

    private static void formsFaults() {
        promise = 4;
        badForms("digit 7 as 127;", 5, 15);
        badForms("digit 7 as 1 or 127; ", 5, 21);
        badForms("digit 10 as 5;", 4, 6);
        badForms("digit 1 as 0;", 4, 11);
        badForms("digit 1 as 128;", 4, 11);
        badForms("digit 1 as 5 or 9999;", 4, 16);
        badForms("digit 1 as 5;digit 1 as 9;", 3, 19);
        badForms("digit 1 as 5 or 5;", 3, 16);
        badForms("digit 1 as 5;digit 2 as 05;", 3, 24);
        badForms("digit 1 as 5;digit 7 as 9 or 5;", 3, 29);
        badForms("digit", 2, 5);
        badForms("digit 1 as 5 ", 2, 13);
        badForms("digit 1 as 5 or", 2, 15);
        badForms("digit 1 as 5 or 6 or 7;", 2, 18);
        badForms("digit 1 as;", 2, 10);
        badForms("digit as 5;", 2, 6);
        badForms("as", 2, 0);
        badForms(";", 2, 0);
        badForms("digits 1 as 5;", 2, 0);
        badForms("digit 1 as 5;;", 2, 13);
        badForms("digit 1 as 5; 2", 2, 14);
        badForms("Digit 1 as 5;", 1, 0);
        badForms("digit 1 as 5, ", 1, 12);
        badForms("\t", 1, 0);
        badForms("digit 1 as 127;digit 2 as 0;", 4, 26);
    }

    private static void tokensOfForms() {
        promise = 4;
        badForms("eightlet", 2, 0);
        badForms("nineletts", 1, 0);
        badForms("digit 1 as 00005;", 1, 11);
        badForms("digit 1as 5;", 1, 6);
        badForms("digit 1 as 5or 6;", 1, 11);
        badForms("12a", 1, 0);
        badForms("12", 2, 0);
        badForms("digit " + (char) 233, 1, 6);
        badForms("digit " + (char) 0, 1, 6);
    }

    private static void layAndGoal() {
        promise = 5;
        StickSums x = laid("6+4=4");
        goal(x, "1=1");
        x.keep(0);
        x.stick(0, 6, false);
        x.seen(0, 0, true);
        due("lay anew", lay(x, "12*3/4=9-0"), 10);
        due("row", row(x), "12*3/4=9-0");
        due("SEEN", x.about(3), 0);
        due("ACTS", x.about(6), 0);
        due("undo", x.undo(), false);
        due("GOAL stays", x.about(2), 3);
        due("BOX stays", x.back(0), 5);
        due("blanks", lay(x, " 1\n2 =1 2 "), 5);
        due("blanks", row(x), "12=12");
        due("eleven CELLS", lay(x, "1234+5678=9"), 11);
        due("60 bytes", lay(x, "1=1" + " ".repeat(57)), 3);
        write(x, "1=2" + " ".repeat(58));
        due("61 bytes", x.lay(), -2);
        due("TAPE stays", x.about(5), 61);
        due("row stays", row(x), "1=1");
        promise = 6;
        due("61 bytes", x.goal(), -2);
        due("TAPE stays", x.about(5), 61);
        due("goal", goal(x, " 8-4=4"), 5);
        due("GOAL", x.about(2), 5);
        due("TAPE", x.about(5), 0);
        due("ROW stays", row(x), "1=1");
        x.stick(0, 0, true);
        x.seen(0, 0, true);
        due("goal with a fault", goal(x, "8-4=4="), -1);
        due("GOAL stays", x.about(2), 5);
        due("FAULT", x.fault(0), 2);
        due("place", x.fault(1), 5);
        due("ACTS stay", x.about(6), 1);
        due("SEEN stay", x.about(3), 1);
    }

    private static void badSum(String text, int fault, int place) {
        StickSums x = laid("5=5");
        x.seen(0, 0, true);
        x.stick(0, 1, true);
        due("lay '" + text + "'", lay(x, text), -1);
        due("FAULT of '" + text + "'", x.fault(0), fault);
        due("place of '" + text + "'", x.fault(1), place);
        due("all stays", row(x), "9=5");
        due("all stays", x.about(3) + 10 * x.about(6), 11);
        due("TAPE is empty", x.about(5), 0);
    }

    private static void sumFaults() {
        promise = 5;
        badSum("", 2, 0);
        badSum("  ", 2, 2);
        badSum("1", 2, 1);
        badSum("1+", 2, 2);
        badSum("1+1", 2, 3);
        badSum("1=", 2, 2);
        badSum("=1", 2, 0);
        badSum("+1=1", 2, 0);
        badSum("1=-1", 2, 2);
        badSum("1*+1=1", 2, 2);
        badSum("1==1", 2, 2);
        badSum("1=1=1", 2, 3);
        badSum("01=1", 2, 1);
        badSum("0 0=0", 2, 2);
        badSum("10+00=10", 2, 4);
        badSum("12345=1", 2, 4);
        badSum("1 2 3 4 5=1", 2, 8);
        badSum("1a", 1, 1);
        badSum("1\t=1", 1, 1);
        badSum("1+1+1+1+1+1=1", 2, 11);
        badSum("1+1+1+1+1=1+1", 2, 11);
        badSum("1+1+1+1+1=1 #", 1, 12);
        badSum("1+1+1+1+1= 11", 2, 12);
    }

    private static void wantedIsTold() {
        promise = 7;
        StickSums x = laid("6+4=4");
        due("wanted", want(x, "left<8"), 2);
        due("mends", x.mends(1, 1), 2);
        due("wanted", want(x, "(left+1)*2>sticks or not right=0"), 7);
        due("units", x.about(7), 7);
        due("fault", want(x, "left<"), -1);
        due("stays", x.about(7), 7);
        due("TAPE", x.about(5), 0);
        due("empty", want(x, ""), 0);
        due("units", x.about(7), 0);
        want(x, "1");
        due("blanks alone", want(x, " \n "), 0);
        due("200 bytes", want(x, "1" + " ".repeat(199)), 1);
        write(x, "2" + " ".repeat(200));
        due("201 bytes", x.wanted(), -2);
        due("TAPE stays", x.about(5), 201);
        due("stays", x.about(7), 1);
        due("not parted", want(x, "not(1)and(left)or(2)"), 6);
        due("ROW stays", row(x), "6+4=4");
        forms(x, "");
        due("FORMS leave it", x.about(7), 6);
    }

    private static void badWanted(String text, int fault, int place) {
        StickSums x = new StickSums();
        want(x, "1+2");
        due("wanted '" + text + "'", want(x, text), -1);
        due("FAULT of '" + text + "'", x.fault(0), fault);
        due("place of '" + text + "'", x.fault(1), place);
        due("stays", x.about(7), 2);
    }

    private static void wantedFaults() {
        promise = 7;
        badWanted("left left", 2, 5);
        badWanted("left<1<2", 2, 6);
        badWanted("left=1=2", 2, 6);
        badWanted("1)", 2, 1);
        badWanted("(1", 2, 2);
        badWanted("()", 2, 1);
        badWanted("foo", 2, 0);
        badWanted("#", 1, 0);
        badWanted("1;", 1, 1);
        badWanted("left/2", 1, 4);
        badWanted("1+not 1", 2, 2);
        badWanted("not", 2, 3);
        badWanted("1 or", 2, 4);
        badWanted("or 1", 2, 0);
        badWanted("-1", 2, 0);
        badWanted("1+", 2, 2);
        badWanted("12345", 1, 0);
        badWanted("1left", 1, 0);
        badWanted("left1", 2, 4);
        badWanted("figuresss", 1, 0);
        badWanted("digit", 2, 0);
        badWanted("((((((((1))))))))", 2, 7);
        badWanted("not not not not not not not not 1", 2, 28);
        badWanted("not not not not (not (not not 1))", 2, 22);
        badWanted("not not not not not not not (1)", 2, 28);
        badWanted("(((((((not 1)))))))", 2, 7);
        badWanted("1" + "+1".repeat(40), 2, 80);
        badWanted("1" + "+1".repeat(39) + "*(1)", 2, 80);
        StickSums x = new StickSums();
        due("seven deep", want(x, "(((((((1)))))))"), 8);
        due("seven nots", want(x, "not not not not not not not 1"), 1);
        due("mixed", want(x, "not (not (not (not 1)))and(1)"), 6);
        due("forty units", want(x, "1" + "+1".repeat(39)), 40);
        due("forty units with a bracket", want(x, "1" + "+1".repeat(37) + "+(1)"), 40);
    }

    /** Of 0+4=4 (17 sticks, 3 FIGURES) what a law says, by whether it is GOOD as it is. */
    private static void law(String text, int good) {
        StickSums x = laid("0+4=4");
        want(x, text);
        due("'" + text + "' of 0+4=4", x.mends(0, 0), good);
    }

    private static void wantedCounts() {
        promise = 7;
        law("", 1);
        law("0", 0);
        law("5", 1);
        law("left", 1);
        law("left=4", 1);
        law("left=right", 1);
        law("sticks=18", 1);
        law("sticks=17", 0);
        law("figures=3", 1);
        law("figures<3", 0);
        law("figures>2", 1);
        law("not 5", 0);
        law("not not 5=1", 0);
        law("(not not 5)=1", 1);
        law("not left=4", 0);
        law("not left=3", 1);
        law("2+3*4=14", 1);
        law("10-3-2=5", 1);
        law("1 or 0 and 0", 1);
        law("(1 or 0) and 0", 0);
        law("(3 and 5)=1", 1);
        law("(0 or 7)=1", 1);
        law("0-1", 1);
        law("0-1<0", 1);
        law("(2<1)+(1<2)=1", 1);
        law("3-left+1", 0);
        law("not 0 and 0", 0);
        law("not (0 and 0)", 1);
        String most = "9999*9999*9999*9999*9999";
        law(most + "<0", 9999L * 9999 * 9999 * 9999 * 9999 < 0 ? 1 : 0);
        law("8192*8192*8192*8192*4096", 0);
        law("8192*8192*8192*8192*2048<0", 1);
    }

    private static void faultIsOfTheLatest() {
        promise = 8;
        StickSums x = new StickSums();
        due("at first", x.fault(0), 0);
        due("at first", x.fault(1), -1);
        lay(x, "1+");
        due("FAULT", x.fault(0), 2);
        due("place", x.fault(1), 2);
        write(x, " ".repeat(61));
        x.lay();
        due("-2 leaves it", x.fault(0), 2);
        due("-2 leaves it", x.fault(1), 2);
        forms(x, "");
        due("none", x.fault(0), 0);
        due("none", x.fault(1), -1);
        want(x, "?");
        due("FAULT", x.fault(0), 1);
        goal(x, "1=1");
        due("none", x.fault(0), 0);
        due("what 2", x.fault(2), -1);
        due("what -1", x.fault(-1), -1);
    }

    private static void waysAndCells() {
        promise = 9;
        StickSums x = new StickSums();
        forms(x, "digit 3 as 79 or 78;");
        due("way 3 0", x.way(3, 0), 79);
        due("way 3 1", x.way(3, 1), 78);
        due("way 3 2", x.way(3, 2), -1);
        due("way 3 -1", x.way(3, -1), -1);
        due("way 10 0", x.way(10, 0), -1);
        due("way -1 0", x.way(-1, 0), -1);
        due("way -1 2", x.way(-1, 2), -1);
        promise = 10;
        lay(x, "1+2-3*4/5=6");
        int[] cells = {6, 3, 91, 1, 79, 24, 102, 16, 109, 5, 125};
        for (int c = 0; c < cells.length; c++) {
            due("cell " + c, x.cell(c), cells[c]);
        }
        due("cell 11", x.cell(11), -1);
        due("cell -1", x.cell(-1), -1);
    }

    private static void sticksAndSays() {
        promise = 11;
        StickSums x = laid("6+4=4");
        due("take", x.stick(0, 6, false), true);
        due("cell", x.cell(0), 61);
        due("take again", x.stick(0, 6, false), false);
        due("lay", x.stick(0, 1, true), true);
        due("lay again", x.stick(0, 1, true), false);
        due("cell", x.cell(0), 63);
        due("place 7", x.stick(0, 7, true), false);
        due("place -1", x.stick(0, -1, false), false);
        due("sign place 4", x.stick(1, 4, true), true);
        due("sign place 5", x.stick(1, 5, true), false);
        due("cell 5", x.stick(5, 0, true), false);
        due("cell -1", x.stick(-1, 0, false), false);
        due("sign", x.cell(1), 19);
        due("ACTS", x.about(6), 3);
        promise = 12;
        due("says", row(x), "0.4=4");
        due("says 5", x.says(5), -1);
        due("says -1", x.says(-1), -1);
        forms(x, "digit 6 as 125 or 124;");
        lay(x, "6=6");
        x.stick(0, 0, false);
        due("second WAY", x.says(0), '6');
        x.stick(2, 1, true);
        due("another digit", row(x), "6=8");
        x.stick(1, 0, false);
        due("no sign", x.says(1), -1);
        x.stick(1, 2, false);
        x.stick(1, 4, true);
        due("/", x.says(1), '/');
        x.stick(1, 3, true);
        due("*", x.says(1), '*');
    }

    private static void truthAndWorth(String text, int truth, int left, int right) {
        StickSums x = laid(text);
        promise = 13;
        due("isTrue " + text, x.isTrue(), truth);
        promise = 14;
        due("left " + text, x.worth(0), left);
        due("right " + text, x.worth(1), right);
    }

    private static void truthAndWorth() {
        int none = -2000000000;
        truthAndWorth("1=1", 1, 1, 1);
        truthAndWorth("6+4=4", 0, 10, 4);
        truthAndWorth("1+2*3=7", 1, 7, 7);
        truthAndWorth("9-3-2=4", 1, 4, 4);
        truthAndWorth("8/3*3=6", 1, 6, 6);
        truthAndWorth("8*3/5=4", 1, 4, 4);
        truthAndWorth("0-7/2=0-3", 1, -3, -3);
        truthAndWorth("1-2*3=0-5", 1, -5, -5);
        truthAndWorth("4/0=2", 0, none, 2);
        truthAndWorth("2=4/0", 0, 2, none);
        truthAndWorth("1/0=1/0", 0, none, none);
        truthAndWorth("0*1/0=0", 0, none, 0);
        truthAndWorth("1/0-1=0*9", 0, none, 0);
        truthAndWorth("9999*9999=1", 0, 99980001, 1);
        StickSums x = laid("8+8=0");
        due("side 2", x.worth(2), none);
        due("side -1", x.worth(-1), none);
        x.stick(0, 3, false);
        promise = 13;
        due("no WAY", x.isTrue(), -1);
        promise = 14;
        due("no WAY", x.worth(0), none);
        due("no WAY", x.worth(1), none);
        promise = 13;
        lay(x, "81=81");
        x.stick(0, 6, false);
        due("01 is no number", row(x), "01=81");
        due("01 is no number", x.isTrue(), -1);
        lay(x, "1=1+1");
        x.stick(1, 2, false);
        due("no =", row(x), "1-1+1");
        due("no =", x.isTrue(), -1);
    }

    private static void mendsAndMend() {
        promise = 15;
        StickSums x = laid("6+4=4");
        due("1 1", x.mends(1, 1), 2);
        due("0 0", x.mends(0, 0), 0);
        due("4 0", x.mends(4, 0), -1);
        due("0 4", x.mends(0, 4), -1);
        due("-1 0", x.mends(-1, 0), -1);
        due("0 -1", x.mends(0, -1), -1);
        StickSums y = laid("0+4=4");
        due("itself", y.mends(0, 0), 1);
        y.stick(0, 6, true);
        due("take one of 8+4=4", y.mends(1, 0), 2);
        due("take one of 8+4=4", read(y, c -> y.mend(1, 0, 1, c)), "8-4=4");
        y.stick(0, 6, false);
        y.stick(0, 0, false);
        due("a CELL that is no WAY", y.mends(0, 1), 1);
        due("a CELL that is no WAY", y.mends(0, 0), 0);
        promise = 16;
        due("first", read(x, c -> x.mend(1, 1, 0, c)), "0+4=4");
        due("second", read(x, c -> x.mend(1, 1, 1, c)), "8-4=4");
        due("third", read(x, c -> x.mend(1, 1, 2, c)), ".....");
        due("-1st", read(x, c -> x.mend(1, 1, -1, c)), ".....");
        due("cell 5", x.mend(1, 1, 0, 5), -1);
        due("cell -1", x.mend(1, 1, 0, -1), -1);
        due("4 1", x.mend(4, 1, 0, 0), -1);
        due("1 -1", x.mend(1, -1, 0, 0), -1);
        want(x, "left>right-1 and not sticks>18 and figures=3");
        due("wanted, all", x.mends(1, 1), 2);
        want(x, "sticks=17");
        due("wanted, none", x.mends(1, 1), 0);
        due("wanted, none", x.mend(1, 1, 0, 0), -1);
        promise = 15;
        StickSums z = new StickSums();
        forms(z, "digit 6 as 125 or 124;");
        lay(z, "6=6");
        due("two WAYS by one", z.mends(1, 0), 2);
        due("the same digits", read(z, c -> z.mend(1, 0, 0, c)), "6=6");
        z.stick(0, 0, false);
        due("it is BY 1 and 1, too", z.mends(1, 1), 1);
        StickSums w = laid("9999+9999=1");
        due("many", w.mends(3, 3) > 200, true);
        due("many, the last is there", w.mend(3, 3, w.mends(3, 3) - 1, 0) != -1, true);
        due("many, none behind", w.mend(3, 3, w.mends(3, 3), 0), -1);
    }

    private static void leastMoves() {
        promise = 17;
        due("0", laid("1+1=2").least(), 0);
        due("1", laid("6+4=4").least(), 1);
        due("4=4 by 3", laid("1=0").least(), 3);
        due("an odd number of sticks", laid("1=8").least(), -1);
        StickSums x = laid("1+1=2");
        want(x, "0");
        due("none wanted", x.least(), -1);
        StickSums y = laid("2=5");
        due("3=3 by 2, 2=2 by 2", y.least(), 2);
    }

    private static void shapes() {
        promise = 18;
        StickSums x = laid("1+1=2");
        due("9", x.shape(9), 2);
        due("0", x.shape(0), 0);
        due("77", x.shape(77), 0);
        due("78", x.shape(78), -1);
        due("-1", x.shape(-1), -1);
        int all = 0;
        for (int n = 0; n <= 77; n++) {
            all += x.shape(n);
        }
        due("all", all, x.could(0));
        promise = 19;
        due("first", read(x, c -> x.shaped(9, 0, c)), "1=1/1");
        due("second", read(x, c -> x.shaped(9, 1, c)), "1/1=1");
        due("third", x.shaped(9, 2, 0), -1);
        due("-1st", x.shaped(9, -1, 0), -1);
        due("cell 5", x.shaped(9, 0, 5), -1);
        due("78", x.shaped(78, 0, 0), -1);
        due("-1", x.shaped(-1, 0, 0), -1);
        promise = 20;
        due("fewest", x.bound(false), 9);
        due("most", x.bound(true), laid("8+8=8").bound(true));
        want(x, "left=right and sticks>14");
        due("fewest wanted", x.bound(false), 15);
        want(x, "0");
        due("none wanted", x.bound(false), -1);
        due("none wanted", x.bound(true), -1);
        promise = 18;
        due("none wanted", x.shape(9), 0);
        StickSums spent = laid("1+1=11");
        due("SPENT", spent.shape(9), -2);
        due("SPENT, 78", spent.shape(78), -1);
        promise = 19;
        due("SPENT", spent.shaped(9, 0, 0), -1);
        promise = 20;
        due("SPENT", spent.bound(false), -2);
        StickSums three = laid("7=7");
        due("fewest of 1=1", three.bound(false), 6);
        due("most of 8=8", three.bound(true), 16);
        promise = 18;
        due("1=1", three.shape(6), 1);
        due("2=2, 3=3, 5=5", three.shape(12), 3);
        due("0=0, 6=6, 9=9", three.shape(14), 3);
    }

    private static void apartAndSteps() {
        promise = 21;
        StickSums x = laid("0+4=4");
        due("no GOAL", x.apart(0), -1);
        due("no GOAL", x.steps(), -1);
        goal(x, "8-4=4");
        due("0", x.apart(0), 1);
        due("1", x.apart(1), 1);
        due("2", x.apart(2), -1);
        due("-1", x.apart(-1), -1);
        x.stick(4, 0, true);
        due("a stick more", x.apart(0), 2);
        due("a stick more", x.apart(1), 1);
        x.undo();
        promise = 22;
        due("steps", x.steps(), 1);
        promise = 23;
        due("0 moves", read(x, c -> x.step(0, c)), "0+4=4");
        due("1 move", read(x, c -> x.step(1, c)), "8-4=4");
        due("2 moves", x.step(2, 0), -1);
        due("-1 moves", x.step(-1, 0), -1);
        due("cell 5", x.step(0, 5), -1);
        due("cell -1", x.step(0, -1), -1);
        promise = 22;
        lay(x, "6+4=4");
        due("ROW not TRUE", x.steps(), -1);
        due("ROW not TRUE", x.step(0, 0), -1);
        lay(x, "12=12");
        due("not LIKE", x.steps(), -1);
        promise = 21;
        due("not LIKE", x.apart(0), -1);
        promise = 22;
        lay(x, "0*2=0");
        goal(x, "0*5=0");
        want(x, "0");
        due("two steps, WANTED or not", x.steps(), 2);
        promise = 23;
        due("1 move", read(x, c -> x.step(1, c)), "0*3=0");
        due("2 moves", read(x, c -> x.step(2, c)), "0*5=0");
        promise = 22;
        goal(x, "0*5=1");
        due("GOAL not TRUE", x.steps(), -1);
        goal(x, "0*2=0");
        due("there already", x.steps(), 0);
        promise = 23;
        due("there already", read(x, c -> x.step(0, c)), "0*2=0");
        due("there already", x.step(1, 0), -1);
        promise = 22;
        lay(x, "1=1");
        goal(x, "7=7");
        due("no PATH", x.steps(), -1);
        lay(x, "0*6+0*9=0*6");
        goal(x, "0*8+0/9=0*9");
        due("the 150th other", x.steps(), 2);
        goal(x, "0*8-0*9=0*9");
        due("the 151st other", x.steps(), -2);
        goal(x, "0*2+0*2=0*2");
        due("SPENT", x.steps(), -2);
        promise = 23;
        due("SPENT", x.step(0, 0), -1);
    }

    private static void puzzles() {
        promise = 24;
        StickSums x = laid("9=9");
        due("by 1", read(x, c -> x.puzzle(1, c)), "3=8");
        due("by 2", read(x, c -> x.puzzle(2, c)), "0=6");
        due("by 0", x.puzzle(0, 0), -1);
        due("by 3", x.puzzle(3, 0), -1);
        due("cell 3", x.puzzle(1, 3), -1);
        due("cell -1", x.puzzle(1, -1), -1);
        want(x, "0");
        due("WANTED or not", read(x, c -> x.puzzle(1, c)), "3=8");
        lay(x, "9=6");
        due("not TRUE", x.puzzle(1, 0), -1);
        lay(x, "6=6");
        due("none", x.puzzle(1, 0), -1);
        StickSums y = laid("3+6=9");
        due("by 1", read(y, c -> y.puzzle(1, c)), "2+6=9");
        StickSums z = laid("9-9+6-6+0=0");
        due("none among the first 200", z.puzzle(2, 0), -1);
    }

    private static void turnedRows() {
        promise = 25;
        StickSums x = laid("6+9=15");
        due("upside down", read(x, c -> x.turned(0, c)), "5.=6+9");
        due("upright mirror", read(x, c -> x.turned(1, c)), "2.=.+.");
        due("lying mirror", read(x, c -> x.turned(2, c)), ".+.=12");
        due("way 3", x.turned(3, 0), -1);
        due("way -1", x.turned(-1, 0), -1);
        due("cell 6", x.turned(0, 6), -1);
        due("cell -1", x.turned(0, -1), -1);
        due("the ROW stays", row(x), "6+9=15");
        StickSums s = laid("8*0/8-8=0-8");
        due("signs upside down", read(s, c -> s.turned(0, c)), "8-0=8-8/0*8");
        due("signs in an upright mirror", read(s, c -> s.turned(1, c)), "8-0=8-8.0*8");
        due("signs in a lying mirror", read(s, c -> s.turned(2, c)), "8*0.8-8=0-8");
        promise = 26;
        StickSums y = laid("8-8=0");
        due("0=8-8", y.turnedTrue(0), 1);
        due("0=8-8", y.turnedTrue(1), 1);
        due("8-8=0", y.turnedTrue(2), 1);
        due("way 3", y.turnedTrue(3), -1);
        due("way -1", y.turnedTrue(-1), -1);
        lay(y, "8-2=6");
        due("9=2-8", y.turnedTrue(0), 0);
        due("6 in a mirror", y.turnedTrue(1), -1);
        lay(y, "3*1=3");
        due("1 upside down", y.turnedTrue(0), -1);
        due("3*1=3 in a lying mirror", y.turnedTrue(2), 1);
        x.stick(0, 0, false);
        due("no WAY", x.turnedTrue(0), -1);
    }

    private static void seenAndTimes() {
        promise = 27;
        StickSums x = laid("1+1=3");
        due("first", x.seen(0, 0, true), 0);
        due("second, against it", x.seen(0, 0, false), 1);
        due("place 7", x.seen(0, 7, true), -1);
        due("place -1", x.seen(0, -1, true), -1);
        due("sign place 4", x.seen(1, 4, true), 2);
        due("sign place 5", x.seen(1, 5, true), -1);
        due("cell 5", x.seen(5, 0, true), -1);
        due("cell -1", x.seen(-1, 0, true), -1);
        for (int i = 3; i < 60; i++) {
            due("seen", x.seen(0, 0, true), i);
        }
        due("61st", x.seen(0, 0, true), -1);
        due("about 3", x.about(3), 60);
        promise = 28;
        due("untell", x.untell(59), true);
        due("again", x.untell(59), false);
        due("60", x.untell(60), false);
        due("-1", x.untell(-1), false);
        due("UNTOLD are SEEN, too", x.about(3), 60);
        due("61st", x.seen(0, 0, true), -1);
        promise = 29;
        due("0", x.later(0), 0);
        due("1000", x.later(1000), 1000);
        due("1001", x.later(1001), -1);
        due("-1", x.later(-1), -1);
        due("about 4", x.about(4), 1000);
        for (int i = 2; i <= 99; i++) {
            x.later(1000);
        }
        due("999", x.later(999), 99999);
        due("past 100,000", x.later(2), -1);
        due("to 100,000", x.later(1), 100000);
        due("past 100,000", x.later(1), -1);
        due("about 4", x.about(4), 100000);
        lay(x, "1=1");
        due("goes on", x.about(4), 100000);
    }

    private static void couldAndNext() {
        promise = 30;
        StickSums x = laid("7=1");
        due("d=d", x.could(0), 10);
        x.later(3);
        due("no top", x.seen(0, 0, false), 0);
        due("no top: 1, 4", x.could(3), 2);
        due("not before", x.could(2), 10);
        due("also later", x.could(1000), 2);
        due("below 0", x.could(-5), 10);
        x.later(2);
        x.seen(2, 6, true);
        due("with a middle: 4", x.could(5), 1);
        due("not before", x.could(4), 2);
        x.later(1);
        x.untell(0);
        due("UNTOLD at 6: d with a middle", x.could(6), 7);
        due("not before", x.could(5), 1);
        x.seen(2, 6, false);
        due("against one another", x.could(6), 0);
        promise = 31;
        due("4=4", read(x, c -> x.couldBe(5, 0, c)), "4=4");
        due("first", read(x, c -> x.couldBe(3, 0, c)), "1=1");
        due("second", read(x, c -> x.couldBe(3, 1, c)), "4=4");
        due("third", x.couldBe(3, 2, 0), -1);
        due("-1st", x.couldBe(3, -1, 0), -1);
        due("cell 3", x.couldBe(3, 0, 3), -1);
        due("none", x.couldBe(6, 0, 0), -1);
        promise = 32;
        due("none", x.next(6, 0), -1);
        due("just one", x.next(5, 0), -1);
        due("1 or 4: by left above", x.next(3, 0), 0);
        due("1 or 4: by left above", x.next(3, 1), 5);
        due("what 2", x.next(3, 2), -1);
        due("what -1", x.next(3, -1), -1);
        due("of ten: left below (0 2 6 8)", x.next(0, 1), 4);
        due("of ten", x.next(0, 0), 0);
        promise = 30;
        want(x, "left>4");
        due("wanted", x.could(0), 5);
        want(x, "");
        StickSums spent = laid("1111+1111=1");
        due("SPENT", spent.could(0), -2);
        promise = 31;
        due("SPENT", spent.couldBe(0, 0, 0), -1);
        promise = 32;
        due("SPENT", spent.next(0, 0), -2);
        due("SPENT, what 2", spent.next(0, 2), -1);
        promise = 30;
        spent.seen(0, 0, true);
        spent.seen(0, 0, false);
        due("none is as SEEN", spent.could(0), 0);
        longList();
        promise = 27;
        spent.stick(0, 0, true);
        due("ACTS leave SEEN", spent.about(3), 2);
    }

    /** Some of a long list, asked for out of order: as they stand among all digits and signs. */
    private static void longList() {
        promise = 31;
        StickSums x = laid("1+1=1");
        due("a long list", x.could(0), 484);
        String signs = "0123456789+-=*/";
        int[] some = {483, 256, 257, 0, 255, 400, 482, 1};
        String[] found = new String[484];
        for (int i : some) {
            found[i] = read(x, c -> x.couldBe(0, i, c));
            due(found[i] + " is TRUE", laid(found[i]).isTrue(), 1);
        }
        due("none behind", x.couldBe(0, 484, 0), -1);
        int at = 0;
        for (int all = 0; all < 10 * 5 * 10 * 5 * 10; all++) {
            String sum = "" + all / 2500 + signs.charAt(10 + all / 500 % 5) + all / 50 % 10
                + signs.charAt(10 + all / 10 % 5) + all % 10;
            if (sum.replaceAll("[^=]", "").length() == 1 && laid(sum).isTrue() == 1) {
                due("number " + at, found[at] == null ? sum : found[at], sum);
                at++;
            }
        }
        due("all of them", at, 484);
    }

    private static void extremes() {
        promise = 33;
        StickSums x = new StickSums();
        due("1", x.extreme(2, 1, false), 1);
        due("7", x.extreme(3, 1, true), 7);
        due("0 of 6 sticks", x.extreme(6, 1, false), 0);
        due("none", x.extreme(1, 1, true), -1);
        due("11", x.extreme(4, 2, false), 11);
        due("10", x.extreme(8, 2, false), 10);
        due("91", x.extreme(8, 2, true), 91);
        due("88888", x.extreme(35, 5, true), 88888);
        due("88888", x.extreme(35, 5, false), 88888);
        due("11111", x.extreme(10, 5, true), 11111);
        due("none", x.extreme(9, 5, true), -1);
        due("0 sticks", x.extreme(0, 1, true), -1);
        due("36 sticks", x.extreme(36, 5, true), -1);
        due("0 figures", x.extreme(5, 0, true), -1);
        due("6 figures", x.extreme(12, 6, true), -1);
        promise = 34;
        due("2 3 5", x.numbers(5, 1), 3);
        due("0 6 9", x.numbers(6, 1), 3);
        due("none", x.numbers(1, 1), 0);
        due("60 sticks' worth", x.numbers(8, 2), 12);
        due("35 5", x.numbers(35, 5), 1);
        due("0 sticks", x.numbers(0, 1), -1);
        due("36 sticks", x.numbers(36, 1), -1);
        due("0 figures", x.numbers(5, 0), -1);
        due("6 figures", x.numbers(5, 6), -1);
        int all = 0;
        for (int sticks = 1; sticks <= 35; sticks++) {
            all += x.numbers(sticks, 5);
        }
        due("each number of five figures once", all, 90000);
        forms(x, "digit 6 as 125 or 124;");
        due("1 by 0 6 9, 6 9 by 1, 2 3 5 6 by 7, 7 by 2 3 5 6, 44", x.numbers(8, 2), 14);
        forms(x, "digit 6 as 125 or 124;digit 1 as 6 or 2;");
        due("a number by two WAYS once", x.numbers(3, 2), 1);
        due("11 by 1 and 2, or 2 and 1", x.extreme(3, 2, false), 11);
        due("6 by 5 sticks, too", x.numbers(5, 1), 4);
        promise = 33;
        due("6 by 5 sticks, too", x.extreme(5, 1, true), 6);
        due("9 by 6 and 1 by 1", x.extreme(7, 2, true), 91);
    }

    private static void grundies() {
        promise = 35;
        StickSums x = laid("8-1=7");
        due("8", x.grundy(0), 4);
        due("sign", x.grundy(1), 0);
        due("1", x.grundy(2), 0);
        due("7", x.grundy(4), 1);
        due("cell 5", x.grundy(5), -1);
        due("cell -1", x.grundy(-1), -1);
        x.stick(4, 0, false);
        x.stick(4, 1, false);
        due("no WAY is left alone", x.grundy(4), 0);
        promise = 36;
        lay(x, "8-1=7");
        due("CELL", x.wins(0), 0);
        due("digit", x.wins(1), 4);
        due("what 2", x.wins(2), -1);
        due("what -1", x.wins(-1), -1);
        lay(x, "7=7");
        due("like ones", x.wins(0), -1);
        due("like ones", x.wins(1), -1);
        lay(x, "1=7");
        due("7 to 1", x.wins(0), 2);
        due("7 to 1", x.wins(1), 1);
        x.stick(2, 6, true);
        due("no WAY can't be taken from", x.wins(0), -1);
        forms(x, "digit 1 as 6 or 2;");
        lay(x, "1=1");
        promise = 35;
        due("1 to 1 by its other WAY", x.grundy(0), 1);
        promise = 36;
        x.stick(2, 2, false);
        due("1 to 1", x.wins(0), 0);
        due("1 to 1", x.wins(1), 1);
    }

    private static void undoAndRedo() {
        promise = 37;
        StickSums x = laid("6+4=4");
        due("none", x.undo(), false);
        x.stick(0, 6, false);
        x.stick(0, 1, true);
        due("undo", x.undo(), true);
        due("cell", x.cell(0), 61);
        due("ACTS", x.about(6), 1);
        promise = 38;
        due("redo", x.redo(), true);
        due("cell", x.cell(0), 63);
        due("no more", x.redo(), false);
        x.undo();
        x.undo();
        due("cell", x.cell(0), 125);
        due("a stick that does nothing is no ACT", x.stick(0, 6, true), false);
        due("redo", x.redo(), true);
        due("cell", x.cell(0), 61);
        x.stick(4, 0, true);
        due("gone with a new ACT", x.redo(), false);
        due("cell", x.cell(0), 61);
        due("ACTS", x.about(6), 2);
        promise = 37;
        lay(x, "8=8");
        due("another ROW leaves none", x.undo(), false);
        due("another ROW leaves none", x.redo(), false);
        for (int i = 0; i < 50; i++) {
            x.stick(0, 0, false);
            x.stick(0, 0, true);
        }
        due("a hundred", x.about(6), 100);
        x.stick(2, 6, false);
        due("still a hundred", x.about(6), 100);
        for (int i = 0; i < 100; i++) {
            due("undo", x.undo(), true);
        }
        due("the first is kept no more", x.undo(), false);
        due("and stays done", x.cell(0), 126);
        due("the last is taken back", x.cell(2), 127);
        promise = 38;
        for (int i = 0; i < 100; i++) {
            due("redo", x.redo(), true);
        }
        due("no more", x.redo(), false);
        due("cell", x.cell(2), 63);
        due("cell", x.cell(0), 127);
    }

    private static void boxes() {
        promise = 39;
        StickSums x = laid("6+4=4");
        goal(x, "1=1");
        due("no BOX", x.keep(3), -1);
        due("no BOX", x.keep(-1), -1);
        x.stick(0, 6, false);
        due("keep", x.keep(2), 5);
        due("ACTS stay", x.about(6), 1);
        x.stick(0, 1, true);
        x.seen(0, 0, true);
        promise = 40;
        due("nothing was", x.back(0), -1);
        due("no BOX", x.back(3), -1);
        due("no BOX", x.back(-1), -1);
        due("doing nothing", x.about(3) + 10 * x.about(6), 21);
        due("back", x.back(2), 5);
        due("sticks and all", x.cell(0), 61);
        due("SEEN", x.about(3), 0);
        due("ACTS", x.about(6), 0);
        due("undo", x.undo(), false);
        due("GOAL stays", x.about(2), 3);
        due("kept still", x.back(2), 5);
        lay(x, "12=12");
        due("keep over it", x.keep(2), 5);
        x.stick(0, 0, true);
        due("back", x.back(2), 5);
        due("another", row(x), "12=12");
        x.keep(0);
        x.keep(1);
        forms(x, "");
        due("FORMS empty them", x.back(0), -1);
        due("FORMS empty them", x.back(1), -1);
        due("FORMS empty them", x.back(2), -1);
        due("without CELLS", x.keep(2), -1);
    }

    private static void aboutAll() {
        promise = 41;
        StickSums x = laid("6+4=4");
        goal(x, "1=1");
        want(x, "left>0");
        x.seen(0, 0, true);
        x.later(7);
        x.stick(0, 0, false);
        x.stick(0, 1, true);
        x.undo();
        x.feed(0, 0, 0, 0, 0);
        int[] all = {5, 17, 3, 1, 7, 20, 1, 2};
        for (int what = 0; what < all.length; what++) {
            due("about " + what, x.about(what), all[what]);
        }
        due("about 8", x.about(8), -1);
        due("about -1", x.about(-1), -1);
        due("NONE", StickSums.NONE, -1);
    }
}
