/** Sums laid in sticks on a table; the document DOC.md says what each call answers. */
public final class StickSums {

    public static final int NONE = -1;

    private static final int SPENT = -2;
    private static final int TOO_LONG = -2;
    private static final int NO_WORTH = -2000000000;

    private static final int MOST_CELLS = 11;
    private static final int FIGURE_PLACES = 7;
    private static final int SIGN_PLACES = 5;
    private static final int MOST_STICKS = MOST_CELLS * FIGURE_PLACES;
    private static final int MOST_WAYS = 20;
    private static final int MOST_BY = 3;

    private static final int SUM_BYTES = 60;
    private static final int WANTED_BYTES = 200;

    private static final int[] FIRST_WAYS = {63, 6, 91, 79, 102, 109, 125, 7, 127, 111};
    private static final int[] SIGN_WAYS = {3, 1, 5, 24, 16};
    private static final String SIGNS = "+-=*/";
    private static final int SIGN_COUNT = 5;

    /** To which PLACE each one goes, turn by turn: upside down, upright mirror, lying mirror. */
    private static final int[] FIGURE_TURNS = {
        3, 4, 5, 0, 1, 2, 6,
        0, 5, 4, 3, 2, 1, 6,
        3, 2, 1, 0, 5, 4, 6,
    };
    private static final int[] SIGN_TURNS = {
        0, 1, 2, 3, 4,
        0, 1, 2, 4, 3,
        0, 1, 2, 4, 3,
    };

    private final Tape tape;
    private final Forms forms;
    private final Law law;
    private final Reading reading;
    private final Row row;
    private final Row goal;
    private final Row spare;
    private final Row box0;
    private final Row box1;
    private final Row box2;
    private final Sightings sightings;
    private final Acts acts;
    private final Lists lists;
    private final Net net;
    private final Numerals numerals;

    public StickSums() {
        tape = new Tape();
        forms = new Forms(tape);
        law = new Law(tape);
        reading = new Reading();
        row = new Row();
        goal = new Row();
        spare = new Row();
        box0 = new Row();
        box1 = new Row();
        box2 = new Row();
        sightings = new Sightings();
        acts = new Acts();
        lists = new Lists(row, sightings, new Walk(forms, law));
        net = new Net(forms, new Walk(forms, law));
        numerals = new Numerals(forms);
    }

    public int feed(int a, int b, int c, int d, int e) {
        if (!tape.hasRoom(20)) {
            return NONE;
        }
        tape.append(a);
        tape.append(b);
        tape.append(c);
        tape.append(d);
        tape.append(e);
        return tape.length;
    }

    public int end(int n) {
        if (n < 0 || n > tape.length) {
            return NONE;
        }
        tape.length = n;
        return n;
    }

    public int forms() {
        int lines = forms.readText();
        tape.length = 0;
        if (lines == NONE) {
            return NONE;
        }
        row.count = 0;
        goal.count = 0;
        box0.count = 0;
        box1.count = 0;
        box2.count = 0;
        changeRow();
        return lines;
    }

    public int lay() {
        int cells = layText(row);
        if (cells >= 0) {
            changeRow();
        }
        return cells;
    }

    public int goal() {
        int cells = layText(goal);
        forgetFound();
        return cells;
    }

    public int wanted() {
        if (tape.length > WANTED_BYTES) {
            return TOO_LONG;
        }
        int units = law.readText();
        tape.length = 0;
        forgetFound();
        return units;
    }

    public int fault(int what) {
        if (what == 0) {
            return tape.fault;
        }
        return what == 1 ? tape.faultPlace : NONE;
    }

    public int way(int digit, int n) {
        return forms.wayOf(digit, n);
    }

    public int cell(int cell) {
        return row.has(cell) ? row.bits[cell] : NONE;
    }

    public boolean stick(int cell, int place, boolean laid) {
        if (!row.hasPlace(cell, place) || row.lies(cell, place) == laid) {
            return false;
        }
        row.flip(cell, place);
        acts.add(cell, place);
        forgetFound();
        return true;
    }

    public int says(int cell) {
        return row.symbolAt(forms, cell);
    }

    public int isTrue() {
        return truthOf(row);
    }

    public int worth(int side) {
        if (side < 0 || side > 1 || !reading.readRow(row, forms)) {
            return NO_WORTH;
        }
        return reading.worthAt(row.count, side);
    }

    public int mends(int t, int l) {
        if (!canBeBy(t, l) || row.count == 0) {
            return NONE;
        }
        return lists.countOf(Lists.MENDS, t, l);
    }

    public int mend(int t, int l, int i, int cell) {
        if (!canBeBy(t, l) || !row.has(cell)) {
            return NONE;
        }
        return readCode(lists.codeOf(Lists.MENDS, t, l, i), cell);
    }

    public int least() {
        if (row.count == 0) {
            return NONE;
        }
        for (int k = 0; k <= MOST_BY; k++) {
            if (lists.countOf(Lists.MENDS, k, k) > 0) {
                return k;
            }
        }
        return NONE;
    }

    public int shape(int sticks) {
        if (sticks < 0 || sticks > MOST_STICKS || row.count == 0) {
            return NONE;
        }
        lists.learnShape();
        return lists.shapeSpent ? SPENT : lists.shapeCounts[sticks];
    }

    public int shaped(int sticks, int i, int cell) {
        if (sticks < 0 || sticks > MOST_STICKS || !row.has(cell)) {
            return NONE;
        }
        return readCode(lists.codeOf(Lists.SHAPE, sticks, 0, i), cell);
    }

    public int bound(boolean most) {
        if (row.count == 0) {
            return NONE;
        }
        lists.learnShape();
        return lists.shapeBound(most);
    }

    public int apart(int what) {
        if (what < 0 || what > 1 || row.count == 0 || !row.isLike(goal)) {
            return NONE;
        }
        return what == 0 ? row.sticksNotIn(goal) : goal.sticksNotIn(row);
    }

    public int steps() {
        if (!canHavePath()) {
            return NONE;
        }
        net.findPath(row, goal);
        return net.moves;
    }

    public int step(int moves, int cell) {
        if (moves < 0 || !canHavePath()) {
            return NONE;
        }
        net.findPath(row, goal);
        return moves > net.moves ? NONE : readCode(net.rowBehind(moves), cell);
    }

    public int puzzle(int k, int cell) {
        if (k < 1 || k > 2 || !row.has(cell) || truthOf(row) != 1) {
            return NONE;
        }
        net.findPuzzle(row, k);
        return readCode(net.puzzle, cell);
    }

    public int turned(int way, int cell) {
        if (way < 0 || way > 2) {
            return NONE;
        }
        spare.turnFrom(row, way);
        return spare.symbolAt(forms, cell);
    }

    public int turnedTrue(int way) {
        if (way < 0 || way > 2) {
            return NONE;
        }
        spare.turnFrom(row, way);
        return truthOf(spare);
    }

    public int seen(int cell, int place, boolean lay) {
        if (!row.hasPlace(cell, place)) {
            return NONE;
        }
        lists.forget();
        return sightings.add(cell, place, lay);
    }

    public boolean untell(int seen) {
        lists.forget();
        return sightings.takeBack(seen);
    }

    public int later(int by) {
        return sightings.passTime(by);
    }

    public int could(int k) {
        return row.count == 0 ? NONE : lists.countOf(Lists.COULD, k, 0);
    }

    public int couldBe(int k, int i, int cell) {
        if (!row.has(cell)) {
            return NONE;
        }
        return readCode(lists.codeOf(Lists.COULD, k, 0, i), cell);
    }

    public int next(int k, int what) {
        if (what < 0 || what > 1 || row.count == 0) {
            return NONE;
        }
        int all = lists.countOf(Lists.COULD, k, 0);
        if (all < 2) {
            return all == SPENT ? SPENT : NONE;
        }
        int spot = lists.bestSpot();
        return what == 0 ? spot / FIGURE_PLACES : spot % FIGURE_PLACES;
    }

    public int extreme(int sticks, int figures, boolean great) {
        return numerals.outermost(sticks, figures, great);
    }

    public int numbers(int sticks, int figures) {
        return numerals.countNumbers(sticks, figures);
    }

    public int grundy(int cell) {
        return row.has(cell) ? grundyAt(cell) : NONE;
    }

    public int wins(int what) {
        if (what < 0 || what > 1) {
            return NONE;
        }
        int all = 0;
        for (int c = 0; c < row.count; c++) {
            all ^= grundyAt(c);
        }
        if (all == 0) {
            return NONE;
        }
        for (int c = 0; c < row.count; c++) {
            int digit = row.figure[c] ? forms.digitTakenTo(row.bits[c], all ^ grundyAt(c)) : NONE;
            if (digit != NONE) {
                return what == 0 ? c : digit;
            }
        }
        return NONE;
    }

    public boolean undo() {
        int act = acts.stepBack();
        flipAct(act);
        return act != NONE;
    }

    public boolean redo() {
        int act = acts.stepOn();
        flipAct(act);
        return act != NONE;
    }

    public int keep(int box) {
        Row kept = boxOf(box);
        if (kept == null || row.count == 0) {
            return NONE;
        }
        kept.copyFrom(row);
        return row.count;
    }

    public int back(int box) {
        Row kept = boxOf(box);
        if (kept == null || kept.count == 0) {
            return NONE;
        }
        row.copyFrom(kept);
        changeRow();
        return row.count;
    }

    public int about(int what) {
        switch (what) {
            case 0: return row.count;
            case 1: return row.sticks();
            case 2: return goal.count;
            case 3: return sightings.count;
            case 4: return sightings.time;
            case 5: return tape.length;
            case 6: return acts.done;
            case 7: return law.units;
            default: return NONE;
        }
    }

    private int layText(Row to) {
        if (tape.length > SUM_BYTES) {
            return TOO_LONG;
        }
        int cells = reading.readText(tape);
        if (cells != NONE) {
            to.fillFrom(tape, forms);
        }
        tape.length = 0;
        return cells;
    }

    /** Another ROW leaves neither ACTS nor SEEN. */
    private void changeRow() {
        acts.clear();
        sightings.count = 0;
        forgetFound();
    }

    private void forgetFound() {
        lists.forget();
        net.forget();
    }

    private int truthOf(Row of) {
        if (!reading.readRow(of, forms)) {
            return NONE;
        }
        return reading.isTrueAt(of.count) ? 1 : 0;
    }

    private boolean canHavePath() {
        return row.isLike(goal) && truthOf(row) == 1 && truthOf(goal) == 1;
    }

    private static boolean canBeBy(int t, int l) {
        return t >= 0 && t <= MOST_BY && l >= 0 && l <= MOST_BY;
    }

    private int readCode(long code, int cell) {
        if (code < 0 || !row.has(cell)) {
            return NONE;
        }
        return forms.symbolOf(row.figure[cell], Walk.choiceIn(code, cell));
    }

    private int grundyAt(int cell) {
        return row.has(cell) && row.figure[cell] ? forms.grundyOf(row.bits[cell]) : 0;
    }

    private void flipAct(int act) {
        if (act != NONE) {
            row.flip(Acts.cellOf(act), Acts.placeOf(act));
            forgetFound();
        }
    }

    private Row boxOf(int box) {
        switch (box) {
            case 0: return box0;
            case 1: return box1;
            case 2: return box2;
            default: return null;
        }
    }

    /** The bytes that were fed, the TOKENS in them, and the FAULT of the latest text. */
    private static final class Tape {
        private static final int MOST_BYTES = 300;
        private static final int MOST_LETTERS = 8;
        private static final int MOST_DIGITS = 4;

        private static final int END = 0;
        private static final int WORD = 1;
        private static final int NUMBER = 2;
        private static final int SIGN = 3;
        private static final int NO_TOKEN = 4;

        private final int[] bytes = new int[MOST_BYTES];
        private int length;
        private int fault;
        private int faultPlace = NONE;
        private String signs = "";
        private int kind;
        private int place;
        private int behind;
        private int value;

        boolean hasRoom(int more) {
            return length + more <= MOST_BYTES;
        }

        void append(int four) {
            for (int shift = 24; shift >= 0 && length < MOST_BYTES; shift -= 8) {
                bytes[length] = four >> shift & 255;
                length++;
            }
        }

        int byteAt(int at) {
            return at >= 0 && at < length && at < MOST_BYTES ? bytes[at] : NONE;
        }

        void forgetFault() {
            fault = 0;
            faultPlace = NONE;
        }

        /** Always false, so that a reader can give up with it. */
        boolean refuse(int why, int where) {
            fault = why;
            faultPlace = where;
            return false;
        }

        /** The TOKEN that is looked at can't stand there, or is none. */
        boolean refuseToken() {
            return refuse(kind == NO_TOKEN ? 1 : 2, place);
        }

        void startTokens(String allowed) {
            forgetFault();
            signs = allowed;
            behind = 0;
            advance();
        }

        void advance() {
            place = behind;
            while (place < length && isBlank(byteAt(place))) {
                place++;
            }
            behind = place;
            int first = byteAt(place);
            if (first == NONE) {
                kind = END;
            } else if (isLetter(first)) {
                readWord();
            } else if (isDigit(first)) {
                readNumber();
            } else {
                behind = place + 1;
                value = first;
                kind = signs.indexOf((char) first) >= 0 ? SIGN : NO_TOKEN;
            }
        }

        private void readWord() {
            while (behind < length && isLetter(byteAt(behind))) {
                behind++;
            }
            kind = behind - place <= MOST_LETTERS ? WORD : NO_TOKEN;
        }

        private void readNumber() {
            value = 0;
            while (behind < length && isDigit(byteAt(behind))) {
                value = value * 10 + byteAt(behind) - '0';
                behind++;
            }
            boolean fits = behind - place <= MOST_DIGITS && !isLetter(byteAt(behind));
            kind = fits ? NUMBER : NO_TOKEN;
        }

        boolean isWord(String word) {
            if (kind != WORD || behind - place != word.length()) {
                return false;
            }
            for (int i = 0; i < word.length(); i++) {
                if (byteAt(place + i) != word.charAt(i)) {
                    return false;
                }
            }
            return true;
        }

        boolean isSign(char sign) {
            return kind == SIGN && value == sign;
        }

        boolean passWord(String word) {
            if (!isWord(word)) {
                return refuseToken();
            }
            advance();
            return true;
        }

        boolean passSign(char sign) {
            if (!isSign(sign)) {
                return refuseToken();
            }
            advance();
            return true;
        }

        static boolean isBlank(int b) {
            return b == 32 || b == 10;
        }

        static boolean isDigit(int b) {
            return b >= '0' && b <= '9';
        }

        private static boolean isLetter(int b) {
            return b >= 'a' && b <= 'z';
        }
    }

    /** The WAYS of the digits, and what follows from them alone. */
    private static final class Forms {
        private static final int MOST_LINES = 300;
        private static final int ALL_BITS = 128;

        private final Tape tape;
        /** WAY n of digit d at 2 * d + n; 0: there is none. */
        private final int[] ways = new int[MOST_WAYS];
        private final int[] told = new int[MOST_WAYS];
        /** The WAYS that there are, in the order of ROWS. */
        private final int[] listed = new int[MOST_WAYS];
        private final int[] digits = new int[MOST_WAYS];
        private int count;
        /** By sticks as bits: where they are listed, and their GRUNDY. */
        private final int[] indexes = new int[ALL_BITS];
        private final int[] grundies = new int[ALL_BITS];

        Forms(Tape tape) {
            this.tape = tape;
            adoptTold();
        }

        int wayOf(int digit, int n) {
            if (digit < 0 || digit > 9 || n < 0 || n > 1 || ways[2 * digit + n] == 0) {
                return NONE;
            }
            return ways[2 * digit + n];
        }

        /** How many lines the text has; NONE: a FAULT, and all stays. */
        int readText() {
            for (int i = 0; i < MOST_WAYS; i++) {
                told[i] = 0;
            }
            tape.startTokens(";");
            int lines = 0;
            while (lines < MOST_LINES && tape.kind != Tape.END) {
                if (!readLine()) {
                    return NONE;
                }
                lines++;
            }
            if (tellsWayOfUntold()) {
                tape.refuse(5, tape.length);
                return NONE;
            }
            adoptTold();
            return lines;
        }

        private boolean readLine() {
            if (!tape.passWord("digit") || !isNumberWithin(0, 9)) {
                return false;
            }
            int digit = tape.value;
            if (digit < 0 || digit > 9 || told[2 * digit] != 0) {
                return tape.refuse(3, tape.place);
            }
            tape.advance();
            if (!tape.passWord("as") || !readWay(2 * digit)) {
                return false;
            }
            if (tape.isWord("or")) {
                tape.advance();
                if (!readWay(2 * digit + 1)) {
                    return false;
                }
            }
            return tape.passSign(';');
        }

        private boolean isNumberWithin(int least, int most) {
            if (tape.kind != Tape.NUMBER) {
                return tape.refuseToken();
            }
            if (tape.value < least || tape.value > most) {
                return tape.refuse(4, tape.place);
            }
            return true;
        }

        private boolean readWay(int slot) {
            if (!isNumberWithin(1, ALL_BITS - 1) || slot < 0 || slot >= MOST_WAYS) {
                return false;
            }
            for (int i = 0; i < MOST_WAYS; i++) {
                if (told[i] == tape.value) {
                    return tape.refuse(3, tape.place);
                }
            }
            told[slot] = tape.value;
            tape.advance();
            return true;
        }

        private boolean tellsWayOfUntold() {
            for (int digit = 0; digit < 10; digit++) {
                for (int i = 0; i < MOST_WAYS && told[2 * digit] == 0; i++) {
                    if (told[i] == FIRST_WAYS[digit]) {
                        return true;
                    }
                }
            }
            return false;
        }

        private void adoptTold() {
            count = 0;
            for (int i = 0; i < ALL_BITS; i++) {
                indexes[i] = NONE;
            }
            for (int digit = 0; digit < 10; digit++) {
                boolean isTold = told[2 * digit] != 0;
                ways[2 * digit] = isTold ? told[2 * digit] : FIRST_WAYS[digit];
                ways[2 * digit + 1] = isTold ? told[2 * digit + 1] : 0;
                enlist(digit, ways[2 * digit]);
                enlist(digit, ways[2 * digit + 1]);
            }
            findGrundies();
        }

        private void enlist(int digit, int bits) {
            if (bits > 0 && bits < ALL_BITS && count < MOST_WAYS) {
                listed[count] = bits;
                digits[count] = digit;
                indexes[bits] = count;
                count++;
            }
        }

        /** What is left of a WAY is a lesser number, so it has its GRUNDY before. */
        private void findGrundies() {
            for (int bits = 0; bits < ALL_BITS; bits++) {
                int met = 0;
                for (int i = 0; i < count && indexes[bits] != NONE; i++) {
                    if (canTake(bits, listed[i])) {
                        met |= 1 << grundyOf(listed[i]);
                    }
                }
                int least = 0;
                while (least < MOST_WAYS && (met >> least & 1) == 1) {
                    least++;
                }
                grundies[bits] = least;
            }
        }

        private static boolean canTake(int from, int rest) {
            return rest != from && (rest & ~from) == 0;
        }

        int grundyOf(int bits) {
            return bits >= 0 && bits < ALL_BITS ? grundies[bits] : 0;
        }

        /** The least digit that can be left with this GRUNDY; NONE if none can. */
        int digitTakenTo(int bits, int grundy) {
            for (int i = 0; i < count && indexOf(true, bits) != NONE; i++) {
                if (canTake(bits, listed[i]) && grundyOf(listed[i]) == grundy) {
                    return digits[i];
                }
            }
            return NONE;
        }

        int choices(boolean figure) {
            return figure ? count : SIGN_COUNT;
        }

        int bitsOf(boolean figure, int choice) {
            if (choice < 0 || choice >= choices(figure)) {
                return 0;
            }
            return figure ? listed[choice] : SIGN_WAYS[choice];
        }

        int symbolOf(boolean figure, int choice) {
            if (choice < 0 || choice >= choices(figure)) {
                return NONE;
            }
            return figure ? '0' + digits[choice] : SIGNS.charAt(choice);
        }

        int indexOf(boolean figure, int bits) {
            if (figure) {
                return bits >= 0 && bits < ALL_BITS ? indexes[bits] : NONE;
            }
            for (int i = 0; i < SIGN_COUNT; i++) {
                if (SIGN_WAYS[i] == bits) {
                    return i;
                }
            }
            return NONE;
        }
    }

    /** CELLS one behind the other, each with its sort and its sticks. */
    private static final class Row {
        private int count;
        private final boolean[] figure = new boolean[MOST_CELLS];
        private final int[] bits = new int[MOST_CELLS];

        boolean has(int cell) {
            return cell >= 0 && cell < count && cell < MOST_CELLS;
        }

        boolean hasPlace(int cell, int place) {
            return has(cell) && place >= 0 && place < (figure[cell] ? FIGURE_PLACES : SIGN_PLACES);
        }

        boolean lies(int cell, int place) {
            return hasPlace(cell, place) && (bits[cell] >> place & 1) == 1;
        }

        void flip(int cell, int place) {
            if (hasPlace(cell, place)) {
                bits[cell] ^= 1 << place;
            }
        }

        int symbolAt(Forms forms, int cell) {
            if (!has(cell)) {
                return NONE;
            }
            return forms.symbolOf(figure[cell], forms.indexOf(figure[cell], bits[cell]));
        }

        int sticks() {
            int all = 0;
            for (int c = 0; c < count; c++) {
                all += Integer.bitCount(bits[c]);
            }
            return all;
        }

        int figureCount() {
            int all = 0;
            for (int c = 0; c < count; c++) {
                all += figure[c] ? 1 : 0;
            }
            return all;
        }

        int sticksNotIn(Row other) {
            int all = 0;
            for (int c = 0; c < count; c++) {
                all += Integer.bitCount(bits[c] & ~other.bits[c]);
            }
            return all;
        }

        boolean isLike(Row other) {
            if (count != other.count) {
                return false;
            }
            for (int c = 0; c < count; c++) {
                if (figure[c] != other.figure[c]) {
                    return false;
                }
            }
            return true;
        }

        void copyFrom(Row other) {
            count = other.count;
            for (int c = 0; c < count; c++) {
                figure[c] = other.figure[c];
                bits[c] = other.bits[c];
            }
        }

        /** The text must have been read as a SUM before. */
        void fillFrom(Tape tape, Forms forms) {
            count = 0;
            for (int i = 0; i < tape.length && count < MOST_CELLS; i++) {
                int symbol = tape.byteAt(i);
                if (!Tape.isBlank(symbol)) {
                    boolean isFigure = Tape.isDigit(symbol);
                    int sign = SIGNS.indexOf((char) symbol);
                    figure[count] = isFigure;
                    bits[count] = isFigure ? forms.wayOf(symbol - '0', 0) : forms.bitsOf(false, sign);
                    count++;
                }
            }
        }

        void turnFrom(Row other, int way) {
            count = other.count;
            for (int c = 0; c < count; c++) {
                int from = way == 2 ? c : count - 1 - c;
                figure[c] = other.figure[from];
                bits[c] = turnBits(other.figure[from], other.bits[from], way);
            }
        }

        private static int turnBits(boolean figure, int bits, int way) {
            int places = figure ? FIGURE_PLACES : SIGN_PLACES;
            int turned = 0;
            for (int p = 0; p < places && way >= 0 && way <= 2; p++) {
                int to = figure ? FIGURE_TURNS[way * places + p] : SIGN_TURNS[way * places + p];
                turned |= (bits >> p & 1) << to;
            }
            return turned;
        }
    }

    /**
     * Reads a SUM from the left. What was read up to each CELL is kept, so that a
     * walk through many ROWS can go on from any of them.
     */
    private static final class Reading {
        private static final int MOST_DIGITS = 4;
        private static final int[] POWERS = {1, 10, 100, 1000, 10000};

        /** 1 as soon as = was read. */
        private final int[] side = new int[MOST_CELLS + 1];
        private final int[] left = new int[MOST_CELLS + 1];
        private final int[] sum = new int[MOST_CELLS + 1];
        private final int[] term = new int[MOST_CELLS + 1];
        /** The sign ahead of the number; + ahead of a side's first. */
        private final int[] sign = new int[MOST_CELLS + 1];
        private final int[] number = new int[MOST_CELLS + 1];
        private final int[] digits = new int[MOST_CELLS + 1];
        /** Bit 0, 1: the left, the right side has no worth. */
        private final int[] lost = new int[MOST_CELLS + 1];

        Reading() {
            sign[0] = '+';
        }

        /** How many CELLS the text has; NONE: a FAULT. */
        int readText(Tape tape) {
            tape.forgetFault();
            int cells = 0;
            for (int i = 0; i < tape.length; i++) {
                int symbol = tape.byteAt(i);
                if (Tape.isBlank(symbol)) {
                    continue;
                }
                if (!Tape.isDigit(symbol) && SIGNS.indexOf((char) symbol) < 0) {
                    tape.refuse(1, i);
                    return NONE;
                }
                if (!goOn(cells, symbol)) {
                    tape.refuse(2, i);
                    return NONE;
                }
                cells++;
            }
            if (!isWhole(cells)) {
                tape.refuse(2, tape.length);
                return NONE;
            }
            return cells;
        }

        /** Whether it SAYS a SUM. */
        boolean readRow(Row row, Forms forms) {
            for (int c = 0; c < row.count; c++) {
                int symbol = row.symbolAt(forms, c);
                if (symbol == NONE || !goOn(c, symbol)) {
                    return false;
                }
            }
            return isWhole(row.count);
        }

        /** Reads a symbol behind the first CELLS; false if it can't stand there. */
        boolean goOn(int at, int symbol) {
            if (at < 0 || at >= MOST_CELLS) {
                return false;
            }
            return Tape.isDigit(symbol) ? goOnByDigit(at, symbol - '0') : goOnBySign(at, symbol);
        }

        private boolean goOnByDigit(int at, int digit) {
            if (digits[at] >= MOST_DIGITS || digits[at] > 0 && number[at] == 0) {
                return false;
            }
            side[at + 1] = side[at];
            left[at + 1] = left[at];
            sum[at + 1] = sum[at];
            term[at + 1] = term[at];
            sign[at + 1] = sign[at];
            number[at + 1] = number[at] * 10 + digit;
            digits[at + 1] = digits[at] + 1;
            lost[at + 1] = lost[at];
            return true;
        }

        private boolean goOnBySign(int at, int symbol) {
            boolean parts = symbol == '=';
            if (digits[at] == 0 || parts && side[at] == 1) {
                return false;
            }
            boolean inTerm = symbol == '*' || symbol == '/';
            int closed = closedTerm(at);
            int closedSum = inTerm ? sum[at] : sum[at] + closed;
            side[at + 1] = parts ? 1 : side[at];
            left[at + 1] = parts ? closedSum : left[at];
            sum[at + 1] = parts ? 0 : closedSum;
            term[at + 1] = inTerm ? closed : 0;
            sign[at + 1] = parts ? '+' : symbol;
            number[at + 1] = 0;
            digits[at + 1] = 0;
            lost[at + 1] = lostWith(at);
            return true;
        }

        private int closedTerm(int at) {
            switch (sign[at]) {
                case '-': return -number[at];
                case '*': return term[at] * number[at];
                case '/': return number[at] == 0 ? 0 : term[at] / number[at];
                default: return number[at];
            }
        }

        private int lostWith(int at) {
            return sign[at] == '/' && number[at] == 0 ? lost[at] | 1 << side[at] : lost[at];
        }

        boolean isLost(int at) {
            return at >= 0 && at <= MOST_CELLS && lost[at] != 0;
        }

        boolean isParted(int at) {
            return at >= 0 && at <= MOST_CELLS && side[at] == 1;
        }

        /** Whether the last number, of so many digits more, may yet make both sides the same. */
        boolean canBecomeTrue(int at, int more) {
            if (at < 0 || at > MOST_CELLS || more < 0 || more > MOST_DIGITS) {
                return false;
            }
            if (sign[at] == '*' || sign[at] == '/') {
                return true;
            }
            int due = sign[at] == '+' ? left[at] - sum[at] : sum[at] - left[at];
            return due >= number[at] * POWERS[more] && due < (number[at] + 1) * POWERS[more];
        }

        boolean isWhole(int at) {
            return at >= 0 && at <= MOST_CELLS && side[at] == 1 && digits[at] > 0;
        }

        int worthAt(int at, int ofSide) {
            if (!isWhole(at) || (lostWith(at) >> ofSide & 1) == 1) {
                return NO_WORTH;
            }
            return ofSide == 0 ? left[at] : sum[at] + closedTerm(at);
        }

        boolean isTrueAt(int at) {
            return isWhole(at) && lostWith(at) == 0 && left[at] == sum[at] + closedTerm(at);
        }
    }

    /** WANTED: read into a code, operands ahead of what joins them. */
    private static final class Law {
        private static final int MOST_CODE = 256;
        private static final int MOST_UNITS = 40;
        private static final int MOST_WITHIN = 6;
        private static final int MOST_STACK = 64;

        private static final int LEFT = -1;
        private static final int RIGHT = -2;
        private static final int STICKS = -3;
        private static final int FIGURES = -4;
        private static final int NOT = -5;
        private static final int OR = -6;
        private static final int AND = -7;
        private static final int SIGN_CODE = -1000;

        private final Tape tape;
        /** A number stands for itself, a sign is its byte taken from SIGN_CODE. */
        private final int[] code = new int[MOST_CODE];
        private int length;
        private int units;
        private final int[] draft = new int[MOST_CODE];
        private int draftLength;
        private int draftUnits;
        private final long[] stack = new long[MOST_STACK];
        private int top;

        Law(Tape tape) {
            this.tape = tape;
        }

        /** How many units the text has; NONE: a FAULT, and all stays. */
        int readText() {
            draftLength = 0;
            draftUnits = 0;
            tape.startTokens("()<>=+-*");
            if (tape.kind != Tape.END && !readWhole()) {
                return NONE;
            }
            for (int i = 0; i < draftLength && i < MOST_CODE; i++) {
                code[i] = draft[i];
            }
            length = draftLength;
            units = draftUnits;
            return units;
        }

        private boolean readWhole() {
            return readEither(0) && (tape.kind == Tape.END || tape.refuseToken());
        }

        private boolean readEither(int within) {
            boolean fits = readBoth(within);
            for (int i = 0; i < WANTED_BYTES && fits && tape.isWord("or"); i++) {
                tape.advance();
                fits = readBoth(within) && put(OR);
            }
            return fits;
        }

        private boolean readBoth(int within) {
            boolean fits = readOne(within);
            for (int i = 0; i < WANTED_BYTES && fits && tape.isWord("and"); i++) {
                tape.advance();
                fits = readOne(within) && put(AND);
            }
            return fits;
        }

        private boolean readOne(int within) {
            if (tape.isWord("not")) {
                if (within > MOST_WITHIN) {
                    return tape.refuseToken();
                }
                tape.advance();
                return readOne(within + 1) && put(NOT);
            }
            if (!readSum(within)) {
                return false;
            }
            if (!tape.isSign('<') && !tape.isSign('>') && !tape.isSign('=')) {
                return true;
            }
            int relation = SIGN_CODE - tape.value;
            tape.advance();
            return readSum(within) && put(relation);
        }

        private boolean readSum(int within) {
            boolean fits = readTerm(within);
            for (int i = 0; i < WANTED_BYTES && fits && (tape.isSign('+') || tape.isSign('-')); i++) {
                int sign = SIGN_CODE - tape.value;
                tape.advance();
                fits = readTerm(within) && put(sign);
            }
            return fits;
        }

        private boolean readTerm(int within) {
            boolean fits = readUnit(within);
            for (int i = 0; i < WANTED_BYTES && fits && tape.isSign('*'); i++) {
                tape.advance();
                fits = readUnit(within) && put(SIGN_CODE - '*');
            }
            return fits;
        }

        private boolean readUnit(int within) {
            boolean opens = tape.isSign('(');
            int leaf = leafCode();
            boolean isUnit = opens && within <= MOST_WITHIN || leaf != SIGN_CODE;
            if (!isUnit || draftUnits >= MOST_UNITS) {
                return tape.refuseToken();
            }
            draftUnits++;
            tape.advance();
            if (!opens) {
                return put(leaf);
            }
            return readEither(within + 1) && tape.passSign(')');
        }

        /** SIGN_CODE if the TOKEN is no unit by itself. */
        private int leafCode() {
            if (tape.kind == Tape.NUMBER) {
                return tape.value;
            }
            if (tape.isWord("left")) {
                return LEFT;
            }
            if (tape.isWord("right")) {
                return RIGHT;
            }
            if (tape.isWord("sticks")) {
                return STICKS;
            }
            return tape.isWord("figures") ? FIGURES : SIGN_CODE;
        }

        private boolean put(int what) {
            if (draftLength >= MOST_CODE) {
                return tape.refuseToken();
            }
            draft[draftLength] = what;
            draftLength++;
            return true;
        }

        boolean allows(int left, int right, int sticks, int figures) {
            if (length == 0) {
                return true;
            }
            top = 0;
            for (int i = 0; i < length && i < MOST_CODE; i++) {
                int what = code[i];
                if (what >= 0) {
                    push(what);
                } else if (what >= FIGURES) {
                    push(what == LEFT ? left : what == RIGHT ? right : what == STICKS ? sticks : figures);
                } else if (what == NOT) {
                    push(pop() == 0 ? 1 : 0);
                } else {
                    long second = pop();
                    push(join(what, pop(), second));
                }
            }
            return pop() != 0;
        }

        private void push(long value) {
            if (top < MOST_STACK) {
                stack[top] = value;
                top++;
            }
        }

        private long pop() {
            if (top <= 0) {
                return 0;
            }
            top--;
            return stack[top];
        }

        private static long join(int what, long a, long b) {
            switch (what) {
                case OR: return a != 0 || b != 0 ? 1 : 0;
                case AND: return a != 0 && b != 0 ? 1 : 0;
                case SIGN_CODE - '<': return a < b ? 1 : 0;
                case SIGN_CODE - '>': return a > b ? 1 : 0;
                case SIGN_CODE - '=': return a == b ? 1 : 0;
                case SIGN_CODE - '+': return a + b;
                case SIGN_CODE - '-': return a - b;
                default: return a * b;
            }
        }
    }

    /** Goes through ROWS LIKE one, in their order; a ROW found is a code of 5 bits a CELL. */
    private static final class Walk {
        static final int GOOD = 0;
        static final int TRUE = 1;
        static final int FALSE = 2;
        static final int ALL = 1000000000;
        static final int WINDOW = 256;

        private static final int CODE_BITS = 5;
        private static final int MOST_PRODUCT = 200000;
        private static final int ALL_COSTS = 0xFFFF;
        /** Costs to which 0, 1, 2, 3 laid sticks can be added without passing 3. */
        private static final int[] ROOM_TO_LAY = {0xFFFF, 0x7777, 0x3333, 0x1111};

        private final Forms forms;
        private final Law law;
        private final Reading reading = new Reading();
        /** The choices of CELL c stand from c * MOST_WAYS on. */
        private final int[] choices = new int[MOST_CELLS * MOST_WAYS];
        private final int[] symbols = new int[MOST_CELLS * MOST_WAYS];
        private final int[] weights = new int[MOST_CELLS * MOST_WAYS];
        /** Sticks taken and laid: 4 * t + l. */
        private final int[] costs = new int[MOST_CELLS * MOST_WAYS];
        private final int[] choiceCount = new int[MOST_CELLS];
        /** The costs, as bits, that the CELLS from each one on can have. */
        private final int[] reach = new int[MOST_CELLS + 1];
        private int cells;
        private int figures;
        private int lastSign;
        private int sort;
        private int stopAt;
        private int onlySticks;
        private int count;
        private int from;
        private final long[] found = new long[WINDOW];
        private final int[] bySticks = new int[MOST_STICKS + 1];
        /** How many of the ROWS found have each WAY in each CELL. */
        private final int[] tally = new int[MOST_CELLS * MOST_WAYS];

        Walk(Forms forms, Law law) {
            this.forms = forms;
            this.law = law;
        }

        static int choiceIn(long code, int cell) {
            return cell < 0 || cell >= MOST_CELLS ? NONE : (int) (code >> CODE_BITS * cell) & 31;
        }

        /** NONE if a CELL is no WAY. */
        static long codeOf(Row row, Forms forms) {
            long code = 0;
            for (int c = 0; c < row.count; c++) {
                int choice = forms.indexOf(row.figure[c], row.bits[c]);
                if (choice == NONE) {
                    return NONE;
                }
                code |= (long) choice << CODE_BITS * c;
            }
            return code;
        }

        /** Those found are kept from one on; of so many sticks alone, or of any (NONE). */
        void open(Row row, int keptFrom, int sticks) {
            cells = row.count;
            figures = row.figureCount();
            from = keptFrom;
            onlySticks = sticks;
            lastSign = NONE;
            for (int c = 0; c < cells; c++) {
                choiceCount[c] = 0;
                lastSign = row.figure[c] ? lastSign : c;
            }
        }

        void chooseBy(Row row, int t, int l) {
            for (int c = 0; c < cells; c++) {
                for (int i = 0; i < forms.choices(row.figure[c]); i++) {
                    int bits = forms.bitsOf(row.figure[c], i);
                    int taken = Integer.bitCount(row.bits[c] & ~bits);
                    int laid = Integer.bitCount(bits & ~row.bits[c]);
                    if (taken <= t && laid <= l) {
                        choose(c, row.figure[c], i, costOf(taken, laid));
                    }
                }
            }
        }

        /** The WAYS that have all sticks of the first bits and none of the second. */
        void chooseAs(int cell, boolean figure, int laid, int bare) {
            for (int i = 0; i < forms.choices(figure); i++) {
                int bits = forms.bitsOf(figure, i);
                if ((bits & laid) == laid && (bits & bare) == 0) {
                    choose(cell, figure, i, 0);
                }
            }
        }

        private void choose(int cell, boolean figure, int choice, int cost) {
            if (cell < 0 || cell >= MOST_CELLS || choiceCount[cell] >= MOST_WAYS) {
                return;
            }
            int at = cell * MOST_WAYS + choiceCount[cell];
            choices[at] = choice;
            symbols[at] = forms.symbolOf(figure, choice);
            weights[at] = Integer.bitCount(forms.bitsOf(figure, choice));
            costs[at] = cost;
            choiceCount[cell]++;
        }

        static int costOf(int t, int l) {
            return 4 * t + l;
        }

        boolean isSpent() {
            long product = 1;
            for (int c = 0; c < cells; c++) {
                product *= choiceCount[c];
            }
            return product > MOST_PRODUCT;
        }

        void go(int cost, int rows, int stop) {
            sort = rows;
            stopAt = stop;
            count = 0;
            for (int i = 0; i <= MOST_STICKS; i++) {
                bySticks[i] = 0;
            }
            for (int i = 0; i < MOST_CELLS * MOST_WAYS; i++) {
                tally[i] = 0;
            }
            findReach();
            goFrom(0, cost, 0, 0L);
        }

        private void findReach() {
            int behind = 1;
            reach[cells] = behind;
            for (int c = cells - 1; c >= 0; c--) {
                int here = 0;
                for (int o = c * MOST_WAYS; o < c * MOST_WAYS + choiceCount[c]; o++) {
                    here |= (behind & ROOM_TO_LAY[costs[o] & 3]) << costs[o] & ALL_COSTS;
                }
                reach[c] = here;
                behind = here;
            }
        }

        private boolean canPay(int cell, int purse, int cost) {
            return cost <= purse && (cost & 3) <= (purse & 3)
                && (reach[cell] >> purse - cost & 1) == 1;
        }

        private void goFrom(int cell, int purse, int sticks, long code) {
            if (cell >= cells || cell >= MOST_CELLS) {
                if (isLookedFor(sticks)) {
                    add(sticks, code);
                }
                return;
            }
            int end = cell * MOST_WAYS + choiceCount[cell];
            for (int o = cell * MOST_WAYS; o < end && count < stopAt; o++) {
                if (canPay(cell + 1, purse, costs[o]) && reading.goOn(cell, symbols[o]) && !isVain(cell + 1)) {
                    long longer = code | (long) choices[o] << CODE_BITS * cell;
                    goFrom(cell + 1, purse - costs[o], sticks + weights[o], longer);
                }
            }
        }

        /** Whether no ROW that is looked for begins so. */
        private boolean isVain(int at) {
            if (at > lastSign && !reading.isParted(at)) {
                return true;
            }
            return sort != FALSE
                && (reading.isLost(at) || at > lastSign && !reading.canBecomeTrue(at, cells - at));
        }

        private void add(int sticks, long code) {
            if (count >= from && count - from < WINDOW) {
                found[count - from] = code;
            }
            count++;
            if (sticks >= 0 && sticks <= MOST_STICKS) {
                bySticks[sticks]++;
            }
            for (int c = 0; c < cells; c++) {
                int choice = choiceIn(code, c);
                if (choice >= 0 && choice < MOST_WAYS) {
                    tally[c * MOST_WAYS + choice]++;
                }
            }
        }

        private boolean isLookedFor(int sticks) {
            if (onlySticks != NONE && sticks != onlySticks) {
                return false;
            }
            if (sort == FALSE) {
                return reading.isWhole(cells) && !reading.isTrueAt(cells);
            }
            return reading.isTrueAt(cells) && (sort == TRUE
                || law.allows(reading.worthAt(cells, 0), reading.worthAt(cells, 1), sticks, figures));
        }

        boolean keeps(int i) {
            return i >= from && i < count && i - from < WINDOW;
        }

        long foundAt(int i) {
            return keeps(i) ? found[i - from] : NONE;
        }

        /** How many of the ROWS found have a stick there. */
        int foundWith(int cell, boolean figure, int place) {
            int all = 0;
            for (int i = 0; i < forms.choices(figure) && cell >= 0 && cell < MOST_CELLS; i++) {
                all += tally[cell * MOST_WAYS + i] * (forms.bitsOf(figure, i) >> place & 1);
            }
            return all;
        }
    }

    /** The GOOD ROWS that calls ask for by numbers; the latest ones stay known until something changes. */
    private static final class Lists {
        static final int MENDS = 0;
        static final int SHAPE = 1;
        static final int COULD = 2;

        private final Row row;
        private final Sightings sightings;
        private final Walk walk;
        private int kind = NONE;
        private int first;
        private int second;
        private int count;
        private boolean shapeKnown;
        private boolean shapeSpent;
        private final int[] shapeCounts = new int[MOST_STICKS + 1];

        Lists(Row row, Sightings sightings, Walk walk) {
            this.row = row;
            this.sightings = sightings;
            this.walk = walk;
        }

        void forget() {
            kind = NONE;
            shapeKnown = false;
        }

        int countOf(int of, int a, int b) {
            if (!isKnown(of, a, b)) {
                find(of, a, b, 0);
            }
            return count;
        }

        long codeOf(int of, int a, int b, int i) {
            if (i < 0) {
                return NONE;
            }
            if (!isKnown(of, a, b) || i < count && !walk.keeps(i)) {
                find(of, a, b, i < Walk.WINDOW ? 0 : i);
            }
            return i < count ? walk.foundAt(i) : NONE;
        }

        private boolean isKnown(int of, int a, int b) {
            return kind == of && first == a && second == b;
        }

        private void find(int of, int a, int b, int from) {
            kind = of;
            first = a;
            second = b;
            walk.open(row, from, of == SHAPE ? a : NONE);
            if (of == MENDS) {
                walk.chooseBy(row, a, b);
            } else {
                chooseAsSeen(of == COULD, a);
            }
            if (of != MENDS && walk.isSpent()) {
                count = SPENT;
                return;
            }
            walk.go(of == MENDS ? Walk.costOf(a, b) : 0, Walk.GOOD, Walk.ALL);
            count = walk.count;
        }

        private void chooseAsSeen(boolean bySeen, int k) {
            for (int c = 0; c < row.count; c++) {
                int laid = bySeen ? sightings.placesSeen(k, c, true) : 0;
                int bare = bySeen ? sightings.placesSeen(k, c, false) : 0;
                walk.chooseAs(c, row.figure[c], laid, bare);
            }
        }

        void learnShape() {
            if (shapeKnown) {
                return;
            }
            find(SHAPE, NONE, 0, 0);
            shapeSpent = count == SPENT;
            for (int i = 0; i <= MOST_STICKS; i++) {
                shapeCounts[i] = shapeSpent ? 0 : walk.bySticks[i];
            }
            shapeKnown = true;
        }

        /** The SHAPE must have been learnt. */
        int shapeBound(boolean most) {
            if (shapeSpent) {
                return SPENT;
            }
            for (int i = 0; i <= MOST_STICKS; i++) {
                int sticks = most ? MOST_STICKS - i : i;
                if (shapeCounts[sticks] > 0) {
                    return sticks;
                }
            }
            return NONE;
        }

        /** NEXT, by those that were counted last, as FIGURE_PLACES * CELL + PLACE. */
        int bestSpot() {
            int best = 0;
            int leastPart = count + 1;
            for (int spot = 0; spot < row.count * FIGURE_PLACES; spot++) {
                int c = spot / FIGURE_PLACES;
                int place = spot % FIGURE_PLACES;
                if (row.hasPlace(c, place)) {
                    int with = walk.foundWith(c, row.figure[c], place);
                    int part = Math.max(with, count - with);
                    best = part < leastPart ? spot : best;
                    leastPart = Math.min(part, leastPart);
                }
            }
            return best;
        }
    }

    /** What is SEEN, with the TIMES at which it was TOLD and UNTOLD. */
    private static final class Sightings {
        private static final int MOST = 60;
        private static final int LONGEST = 1000;
        private static final int LATEST = 100000;

        private int time;
        private int count;
        private final int[] cells = new int[MOST];
        private final int[] places = new int[MOST];
        private final boolean[] laid = new boolean[MOST];
        private final int[] told = new int[MOST];
        /** NONE: not yet. */
        private final int[] untold = new int[MOST];

        int add(int cell, int place, boolean lay) {
            if (count >= MOST) {
                return NONE;
            }
            cells[count] = cell;
            places[count] = place;
            laid[count] = lay;
            told[count] = time;
            untold[count] = NONE;
            count++;
            return count - 1;
        }

        boolean takeBack(int number) {
            if (number < 0 || number >= count || number >= MOST || untold[number] != NONE) {
                return false;
            }
            untold[number] = time;
            return true;
        }

        int passTime(int by) {
            if (by < 0 || by > LONGEST || time + by > LATEST) {
                return NONE;
            }
            time += by;
            return time;
        }

        /** PLACES of a CELL, as bits, that are known at k to have had a stick, or none. */
        int placesSeen(int k, int cell, boolean lay) {
            int seenPlaces = 0;
            for (int i = 0; i < count && i < MOST; i++) {
                if (cells[i] == cell && laid[i] == lay && counts(i, k)) {
                    seenPlaces |= 1 << places[i];
                }
            }
            return seenPlaces;
        }

        private boolean counts(int i, int k) {
            return told[i] <= k && (untold[i] == NONE || untold[i] > k);
        }
    }

    /** What hands did with sticks; each ACT is done and taken back alike, by turning a PLACE over. */
    private static final class Acts {
        private static final int MOST = 100;

        private final int[] acts = new int[MOST];
        private int done;
        private int known;

        static int cellOf(int act) {
            return act >> 3;
        }

        static int placeOf(int act) {
            return act & 7;
        }

        void clear() {
            done = 0;
            known = 0;
        }

        void add(int cell, int place) {
            if (done >= MOST) {
                for (int i = 1; i < MOST; i++) {
                    acts[i - 1] = acts[i];
                }
                done = MOST - 1;
            }
            acts[done] = cell << 3 | place;
            done++;
            known = done;
        }

        int stepBack() {
            if (done <= 0 || done > MOST) {
                return NONE;
            }
            done--;
            return acts[done];
        }

        int stepOn() {
            if (done >= known || done >= MOST) {
                return NONE;
            }
            done++;
            return acts[done - 1];
        }
    }

    /** TRUE ROWS one move apart, and PUZZLES; what was found stays known until something changes. */
    private static final class Net {
        private static final int MOST_OTHERS = 150;
        private static final int MOST_LOOKED_AT = 200;

        private final Forms forms;
        private final Walk walk;
        private final Row spot = new Row();
        private final long[] rows = new long[MOST_OTHERS + 1];
        private final int[] origins = new int[MOST_OTHERS + 1];
        private int count;
        private boolean pathKnown;
        private int moves;
        private final long[] trials = new long[MOST_LOOKED_AT];
        private int puzzleBy = NONE;
        private long puzzle = NONE;

        Net(Forms forms, Walk walk) {
            this.forms = forms;
            this.walk = walk;
        }

        void forget() {
            pathKnown = false;
            puzzleBy = NONE;
        }

        /** Both must be TRUE, and LIKE one another. */
        void findPath(Row start, Row aim) {
            if (pathKnown) {
                return;
            }
            pathKnown = true;
            spot.copyFrom(start);
            rows[0] = Walk.codeOf(start, forms);
            origins[0] = NONE;
            count = 1;
            long aimCode = Walk.codeOf(aim, forms);
            boolean reached = rows[0] == aimCode;
            for (int i = 0; i < count && count <= MOST_OTHERS && !reached; i++) {
                walkFrom(rows[i], 1, Walk.TRUE, Walk.WINDOW);
                for (int j = 0; j < walk.count && count <= MOST_OTHERS && !reached; j++) {
                    reached = addNew(walk.foundAt(j), i) && walk.foundAt(j) == aimCode;
                }
            }
            moves = reached ? movesToLast() : count > MOST_OTHERS ? SPENT : NONE;
        }

        private void walkFrom(long code, int k, int sort, int stop) {
            for (int c = 0; c < spot.count; c++) {
                spot.bits[c] = forms.bitsOf(spot.figure[c], Walk.choiceIn(code, c));
            }
            walk.open(spot, 0, NONE);
            walk.chooseBy(spot, k, k);
            walk.go(Walk.costOf(k, k), sort, stop);
        }

        private boolean addNew(long code, int origin) {
            for (int i = 0; i < count; i++) {
                if (rows[i] == code) {
                    return false;
                }
            }
            if (count > MOST_OTHERS) {
                return false;
            }
            rows[count] = code;
            origins[count] = origin;
            count++;
            return true;
        }

        private int movesToLast() {
            int at = count - 1;
            int all = 0;
            while (all <= MOST_OTHERS && at > 0 && at <= MOST_OTHERS) {
                at = origins[at];
                all++;
            }
            return all;
        }

        /** The PATH must have been found; it ends with the ROW that was found last. */
        long rowBehind(int some) {
            int at = count - 1;
            for (int i = moves; i > some && at > 0 && at <= MOST_OTHERS; i--) {
                at = origins[at];
            }
            return at >= 0 && at <= MOST_OTHERS ? rows[at] : NONE;
        }

        /** The ROW must be TRUE. */
        void findPuzzle(Row row, int k) {
            if (puzzleBy == k) {
                return;
            }
            puzzleBy = k;
            puzzle = NONE;
            spot.copyFrom(row);
            walkFrom(Walk.codeOf(row, forms), k, Walk.FALSE, MOST_LOOKED_AT);
            int looked = Math.min(walk.count, MOST_LOOKED_AT);
            for (int i = 0; i < looked; i++) {
                trials[i] = walk.foundAt(i);
            }
            for (int i = 0; i < looked && puzzle == NONE; i++) {
                walkFrom(trials[i], k, Walk.TRUE, 2);
                puzzle = walk.count == 1 ? trials[i] : NONE;
            }
        }
    }

    /** The numbers that so many sticks lay in so many FIGURES. */
    private static final class Numerals {
        private static final int MOST_FIGURES = 5;
        private static final int MOST_LAID = 35;

        private final Forms forms;
        /** The counts of sticks, as bits, that so many FIGURES can have. */
        private final long[] tails = new long[MOST_FIGURES + 1];
        /** Digits of like counts of sticks are counted together: one of them, and how many. */
        private final int[] speakers = new int[10];
        private final int[] sizes = new int[10];
        private int groups;

        Numerals(Forms forms) {
            this.forms = forms;
        }

        int outermost(int sticks, int figures, boolean great) {
            if (!canLay(sticks, figures)) {
                return NONE;
            }
            findTails();
            long rest = 1L << sticks;
            int number = 0;
            for (int behind = figures - 1; behind >= 0; behind--) {
                int least = behind == figures - 1 && figures > 1 ? 1 : 0;
                int digit = outermostDigit(rest, behind, least, great);
                if (digit == NONE) {
                    return NONE;
                }
                number = number * 10 + digit;
                rest = restBehind(rest, digit);
            }
            return number;
        }

        private static boolean canLay(int sticks, int figures) {
            return sticks >= 1 && sticks <= MOST_LAID && figures >= 1 && figures <= MOST_FIGURES;
        }

        private void findTails() {
            tails[0] = 1;
            for (int i = 1; i <= MOST_FIGURES; i++) {
                long reached = 0;
                for (int w = 0; w < forms.choices(true); w++) {
                    reached |= tails[i - 1] << Integer.bitCount(forms.bitsOf(true, w));
                }
                tails[i] = reached;
            }
        }

        private int outermostDigit(long rest, int behind, int least, boolean great) {
            for (int i = least; i <= 9; i++) {
                int digit = great ? 9 - i + least : i;
                if (canEnd(restBehind(rest, digit), behind)) {
                    return digit;
                }
            }
            return NONE;
        }

        private boolean canEnd(long rest, int behind) {
            return behind >= 0 && behind <= MOST_FIGURES && (rest & tails[behind]) != 0;
        }

        /** From the counts of sticks that may be left to those that may be left behind a digit. */
        private long restBehind(long rest, int digit) {
            int second = forms.wayOf(digit, 1);
            long left = rest >>> Integer.bitCount(forms.wayOf(digit, 0));
            return second == NONE ? left : left | rest >>> Integer.bitCount(second);
        }

        int countNumbers(int sticks, int figures) {
            if (!canLay(sticks, figures)) {
                return NONE;
            }
            findTails();
            findGroups();
            int all = 0;
            for (int digit = figures > 1 ? 1 : 0; digit <= 9; digit++) {
                all += countBehind(restBehind(1L << sticks, digit), figures - 1);
            }
            return all;
        }

        private int countBehind(long rest, int behind) {
            if (!canEnd(rest, behind)) {
                return 0;
            }
            if (behind == 0) {
                return 1;
            }
            int all = 0;
            for (int g = 0; g < groups; g++) {
                all += sizes[g] * countBehind(restBehind(rest, speakers[g]), behind - 1);
            }
            return all;
        }

        private void findGroups() {
            groups = 0;
            for (int digit = 0; digit <= 9; digit++) {
                int g = 0;
                while (g < groups && countsOf(speakers[g]) != countsOf(digit)) {
                    g++;
                }
                if (g == groups) {
                    speakers[g] = digit;
                    sizes[g] = 0;
                    groups++;
                }
                sizes[g]++;
            }
        }

        private int countsOf(int digit) {
            int counts = 1 << Integer.bitCount(forms.wayOf(digit, 0));
            int second = forms.wayOf(digit, 1);
            return second == NONE ? counts : counts | 1 << Integer.bitCount(second);
        }
    }
}
