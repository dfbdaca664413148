import java.util.ArrayList;
import java.util.Arrays;
import java.util.HashMap;
import java.util.HashSet;
import java.util.LinkedHashMap;
import java.util.List;
import java.util.Map;
import java.util.Random;
import java.util.Set;
import java.util.TreeSet;
import java.util.regex.Matcher;
import java.util.regex.Pattern;

/** Long runs of calls, answered by StickSums and by a slow model that is written another way. */
public final class OracleTests {
    private static int wrong = 0;

    public static void main(String[] args) {
        int runs = args.length > 0 ? Integer.parseInt(args[0]) : 400;
        int first = args.length > 1 ? Integer.parseInt(args[1]) : 0;
        long calls = edges();
        for (int run = first; run < first + runs && wrong < 10; run++) {
            calls += new Run(run).play();
        }
        System.out.println(wrong == 0 ? calls + " calls answered alike" : wrong + " answers differ");
        if (wrong != 0) {
            System.exit(1);
        }
    }

    /** Where a PATH is SPENT, and the last one looked at for a PUZZLE: 149, 150, 151 others; the 200th, the 201st. */
    private static int edges() {
        String[] paths = {"60/85=0", "22/88=0", "60/85=0", "11-11=0", "66=65-0+1", "29=28-0+1", "66=65-0+1", "11=11-0+0",
            "3/12/9=0", "5=15/3+0", "3/12/9=0", "5=10/2-0"};
        int calls = 0;
        for (int i = 0; i < paths.length; i += 2) {
            calls += new Run(-1 - i).path(paths[i], paths[i + 1]);
        }
        String[] puzzles = {"8/9=6/67", "9-3/70=9", "5=5-0*80", "66/97/5=0"};
        for (int i = 0; i < puzzles.length; i++) {
            calls += new Run(-101 - i).puzzle(puzzles[i]);
        }
        return calls;
    }

    /** The model: texts, sets and lists, and every list found anew for each call. */
    static final class Model {
        static final class Fault extends RuntimeException {
            private static final long serialVersionUID = 1;
            final int why;
            final int where;

            Fault(int why, int where) {
                this.why = why;
                this.where = where;
            }
        }

        record Token(char kind, String text, int place) { }

        interface Value {
            long of(int left, int right, int sticks, int figures);
        }

        record Cell(boolean figure, int bits) { }

        record Seen(int cell, int place, boolean laid, int told) { }

        static final Map<Integer, Character> SIGNS = new LinkedHashMap<>();
        static {
            SIGNS.put(3, '+');
            SIGNS.put(1, '-');
            SIGNS.put(5, '=');
            SIGNS.put(24, '*');
            SIGNS.put(16, '/');
        }
        static final int[] AT_FIRST = {63, 6, 91, 79, 102, 109, 125, 7, 127, 111};
        static final String N = "(?:0|[1-9][0-9]{0,3})";
        static final String SIDE = N + "(?:[-+*/]" + N + ")*";
        static final Pattern SUM = Pattern.compile("(" + SIDE + ")=(" + SIDE + ")");

        final StringBuilder tape = new StringBuilder();
        /** WAYS in order: bits to digit. */
        LinkedHashMap<Integer, Integer> ways = new LinkedHashMap<>();
        List<Cell> row = new ArrayList<>();
        List<Cell> goal = new ArrayList<>();
        final List<List<Cell>> boxes = new ArrayList<>(Arrays.asList(null, null, null));
        Value wanted = null;
        int units = 0;
        int fault = 0;
        int place = -1;
        int time = 0;
        final List<Seen> seen = new ArrayList<>();
        final Map<Integer, Integer> untold = new HashMap<>();
        /** ROWS before each ACT, and those taken back. */
        final List<List<Cell>> before = new ArrayList<>();
        final List<List<Cell>> undone = new ArrayList<>();

        Model() {
            for (int d = 0; d < 10; d++) {
                ways.put(AT_FIRST[d], d);
            }
        }

        int feed(int... five) {
            if (tape.length() > 280) {
                return -1;
            }
            for (int n : five) {
                tape.append((char) (n >>> 24)).append((char) (n >>> 16 & 255));
                tape.append((char) (n >>> 8 & 255)).append((char) (n & 255));
            }
            return tape.length();
        }

        int end(int n) {
            if (n < 0 || n > tape.length()) {
                return -1;
            }
            tape.setLength(n);
            return n;
        }

        static List<Token> tokens(String text, String signs) {
            List<Token> all = new ArrayList<>();
            Pattern p = Pattern.compile("[ \n]+|([a-z]+)|([0-9]+)([a-z]?)|([" + signs + "])|(.)", Pattern.DOTALL);
            Matcher m = p.matcher(text);
            while (m.find()) {
                if (m.group(1) != null) {
                    all.add(new Token(m.group(1).length() > 8 ? '?' : 'w', m.group(1), m.start()));
                } else if (m.group(2) != null) {
                    boolean bad = m.group(2).length() > 4 || !m.group(3).isEmpty();
                    all.add(new Token(bad ? '?' : 'n', m.group(2), m.start()));
                } else if (m.group(4) != null) {
                    all.add(new Token('s', m.group(4), m.start()));
                } else if (m.group(5) != null) {
                    all.add(new Token('?', m.group(5), m.start()));
                }
            }
            all.add(new Token('e', "", text.length()));
            return all;
        }

        static Fault standing(Token t) {
            return new Fault(t.kind == '?' ? 1 : 2, t.place);
        }

        String emptied() {
            String text = tape.toString();
            tape.setLength(0);
            return text;
        }

        int note(Fault f) {
            fault = f == null ? 0 : f.why;
            place = f == null ? -1 : f.where;
            return -1;
        }

        int forms() {
            try {
                int lines = tellForms(emptied());
                row = new ArrayList<>();
                goal = new ArrayList<>();
                boxes.replaceAll(b -> null);
                another();
                note(null);
                return lines;
            } catch (Fault f) {
                return note(f);
            }
        }

        int tellForms(String text) {
            List<Token> all = tokens(text, ";");
            Map<Integer, List<Integer>> told = new HashMap<>();
            Set<Integer> taken = new HashSet<>();
            int at = 0;
            while (all.get(at).kind != 'e') {
                String[] line = {"digit", "9", "as", "127"};
                int digit = -1;
                for (String part : line) {
                    Token t = all.get(at++);
                    if (!Character.isDigit(part.charAt(0))) {
                        if (t.kind != 'w' || !t.text.equals(part)) {
                            throw standing(t);
                        }
                    } else if (part.equals("9")) {
                        digit = number(t, 0, 9);
                        if (told.containsKey(digit)) {
                            throw new Fault(3, t.place);
                        }
                        told.put(digit, new ArrayList<>());
                    } else {
                        tellWay(t, told.get(digit), taken);
                    }
                }
                if (all.get(at).kind == 'w' && all.get(at).text.equals("or")) {
                    tellWay(all.get(at + 1), told.get(digit), taken);
                    at += 2;
                }
                if (all.get(at).kind != 's') {
                    throw standing(all.get(at));
                }
                at++;
            }
            LinkedHashMap<Integer, Integer> made = new LinkedHashMap<>();
            for (int d = 0; d < 10; d++) {
                for (int w : told.getOrDefault(d, List.of(AT_FIRST[d]))) {
                    if (made.put(w, d) != null || !told.containsKey(d) && taken.contains(w)) {
                        throw new Fault(5, text.length());
                    }
                }
            }
            ways = made;
            return told.size();
        }

        static int number(Token t, int least, int most) {
            if (t.kind != 'n') {
                throw standing(t);
            }
            int n = Integer.parseInt(t.text);
            if (n < least || n > most) {
                throw new Fault(4, t.place);
            }
            return n;
        }

        static void tellWay(Token t, List<Integer> to, Set<Integer> taken) {
            int w = number(t, 1, 127);
            if (!taken.add(w)) {
                throw new Fault(3, t.place);
            }
            to.add(w);
        }

        void another() {
            seen.clear();
            untold.clear();
            before.clear();
            undone.clear();
        }

        List<Cell> sum(String text) {
            StringBuilder shown = new StringBuilder();
            for (int i = 0; i <= text.length(); i++) {
                char c = i < text.length() ? text.charAt(i) : 0;
                if (i < text.length() && (c == 32 || c == 10)) {
                    continue;
                }
                if (i == text.length()) {
                    if (!SUM.matcher(shown).matches()) {
                        throw new Fault(2, i);
                    }
                    break;
                }
                if ("0123456789+-=*/".indexOf(c) < 0) {
                    throw new Fault(1, i);
                }
                shown.append(c);
                if (shown.length() > 11 || !canBegin(shown.toString())) {
                    throw new Fault(2, i);
                }
            }
            List<Cell> cells = new ArrayList<>();
            for (char c : shown.toString().toCharArray()) {
                cells.add(laid(c));
            }
            return cells;
        }

        /** A beginning is one if something behind it makes it a SUM. */
        static boolean canBegin(String s) {
            for (String rest : new String[] {"", "1", "=1", "1=1"}) {
                if (SUM.matcher(s + rest).matches()) {
                    return true;
                }
            }
            return false;
        }

        Cell laid(char c) {
            for (Map.Entry<Integer, Character> e : SIGNS.entrySet()) {
                if (e.getValue() == c) {
                    return new Cell(false, e.getKey());
                }
            }
            for (Map.Entry<Integer, Integer> e : ways.entrySet()) {
                if (e.getValue() == c - '0') {
                    return new Cell(true, e.getKey());
                }
            }
            throw new IllegalStateException();
        }

        int lay() {
            if (tape.length() > 60) {
                return -2;
            }
            try {
                row = sum(emptied());
                another();
                note(null);
                return row.size();
            } catch (Fault f) {
                return note(f);
            }
        }

        int goal() {
            if (tape.length() > 60) {
                return -2;
            }
            try {
                goal = sum(emptied());
                note(null);
                return goal.size();
            } catch (Fault f) {
                return note(f);
            }
        }

        // WANTED, as a tree
        private List<Token> law;
        private int at;
        private int counted;

        int wanted() {
            if (tape.length() > 200) {
                return -2;
            }
            try {
                law = tokens(emptied(), "()<>=+*\\-");
                at = 0;
                counted = 0;
                Value made = null;
                if (law.get(0).kind != 'e') {
                    made = either(0);
                    if (law.get(at).kind != 'e') {
                        throw standing(law.get(at));
                    }
                }
                wanted = made;
                units = counted;
                note(null);
                return units;
            } catch (Fault f) {
                return note(f);
            }
        }

        private boolean is(String text) {
            return law.get(at).kind != '?' && law.get(at).text.equals(text) && !text.isEmpty();
        }

        private Value either(int within) {
            Value a = both(within);
            while (is("or")) {
                at++;
                Value x = a;
                Value y = both(within);
                a = (l, r, s, f) -> x.of(l, r, s, f) != 0 | y.of(l, r, s, f) != 0 ? 1 : 0;
            }
            return a;
        }

        private Value both(int within) {
            Value a = one(within);
            while (is("and")) {
                at++;
                Value x = a;
                Value y = one(within);
                a = (l, r, s, f) -> x.of(l, r, s, f) != 0 & y.of(l, r, s, f) != 0 ? 1 : 0;
            }
            return a;
        }

        private Value one(int within) {
            if (is("not")) {
                if (within == 7) {
                    throw standing(law.get(at));
                }
                at++;
                Value x = one(within + 1);
                return (l, r, s, f) -> x.of(l, r, s, f) == 0 ? 1 : 0;
            }
            Value x = total(within);
            if (is("<") || is(">") || is("=")) {
                String how = law.get(at++).text;
                Value y = total(within);
                return (l, r, s, f) -> {
                    int order = Long.compare(x.of(l, r, s, f), y.of(l, r, s, f));
                    return how.equals("<") && order < 0 || how.equals(">") && order > 0 || how.equals("=") && order == 0 ? 1 : 0;
                };
            }
            return x;
        }

        private Value total(int within) {
            Value a = product(within);
            while (is("+") || is("-")) {
                int by = law.get(at++).text.equals("+") ? 1 : -1;
                Value x = a;
                Value y = product(within);
                a = (l, r, s, f) -> x.of(l, r, s, f) + by * y.of(l, r, s, f);
            }
            return a;
        }

        private Value product(int within) {
            Value a = unit(within);
            while (is("*")) {
                at++;
                Value x = a;
                Value y = unit(within);
                a = (l, r, s, f) -> x.of(l, r, s, f) * y.of(l, r, s, f);
            }
            return a;
        }

        private Value unit(int within) {
            Token t = law.get(at);
            boolean leaf = t.kind == 'n' || is("left") || is("right") || is("sticks") || is("figures");
            if (!leaf && !is("(") || counted == 40 || is("(") && within == 7) {
                throw standing(t);
            }
            counted++;
            at++;
            if (t.kind == 'n') {
                long n = Long.parseLong(t.text);
                return (l, r, s, f) -> n;
            }
            switch (t.text) {
                case "left": return (l, r, s, f) -> l;
                case "right": return (l, r, s, f) -> r;
                case "sticks": return (l, r, s, f) -> s;
                case "figures": return (l, r, s, f) -> f;
                default: break;
            }
            Value inner = either(within + 1);
            if (!is(")")) {
                throw standing(law.get(at));
            }
            at++;
            return inner;
        }

        int fault(int what) {
            return what == 0 ? fault : what == 1 ? place : -1;
        }

        int way(int digit, int n) {
            List<Integer> of = new ArrayList<>();
            ways.forEach((w, d) -> {
                if (d == digit) {
                    of.add(w);
                }
            });
            return n >= 0 && n < of.size() ? of.get(n) : -1;
        }

        int cell(int c) {
            return c >= 0 && c < row.size() ? row.get(c).bits : -1;
        }

        boolean hasPlace(int c, int p) {
            return c >= 0 && c < row.size() && p >= 0 && p < (row.get(c).figure ? 7 : 5);
        }

        boolean stick(int c, int p, boolean laid) {
            if (!hasPlace(c, p) || (row.get(c).bits >> p & 1) == (laid ? 1 : 0)) {
                return false;
            }
            before.add(row);
            if (before.size() > 100) {
                before.remove(0);
            }
            undone.clear();
            row = new ArrayList<>(row);
            row.set(c, new Cell(row.get(c).figure, row.get(c).bits ^ 1 << p));
            return true;
        }

        boolean undo() {
            if (before.isEmpty()) {
                return false;
            }
            undone.add(row);
            row = before.remove(before.size() - 1);
            return true;
        }

        boolean redo() {
            if (undone.isEmpty()) {
                return false;
            }
            before.add(row);
            row = undone.remove(undone.size() - 1);
            return true;
        }

        int read(Cell c) {
            if (c.figure) {
                return ways.containsKey(c.bits) ? '0' + ways.get(c.bits) : -1;
            }
            return SIGNS.containsKey(c.bits) ? SIGNS.get(c.bits) : -1;
        }

        int says(int c) {
            return c >= 0 && c < row.size() ? read(row.get(c)) : -1;
        }

        String text(List<Cell> cells) {
            StringBuilder b = new StringBuilder();
            for (Cell c : cells) {
                int r = read(c);
                b.append(r < 0 ? '?' : (char) r);
            }
            return b.toString();
        }

        /** Null: no worth. */
        static Integer value(String side) {
            int total = 0;
            for (String term : side.replace("-", "+-").split("\\+")) {
                String body = term.startsWith("-") ? term.substring(1) : term;
                String[] parts = body.split("[*/]");
                int v = Integer.parseInt(parts[0]);
                int pos = parts[0].length();
                for (int i = 1; i < parts.length; i++) {
                    int n = Integer.parseInt(parts[i]);
                    if (body.charAt(pos) == '*') {
                        v *= n;
                    } else if (n == 0) {
                        return null;
                    } else {
                        v /= n;
                    }
                    pos += 1 + parts[i].length();
                }
                total += term.startsWith("-") ? -v : v;
            }
            return total;
        }

        int truth(List<Cell> cells) {
            Matcher m = SUM.matcher(text(cells));
            if (!m.matches()) {
                return -1;
            }
            Integer a = value(m.group(1));
            Integer b = value(m.group(2));
            return a != null && b != null && a.intValue() == b.intValue() ? 1 : 0;
        }

        int isTrue() {
            return truth(row);
        }

        int worth(int side) {
            Matcher m = SUM.matcher(text(row));
            if (!m.matches() || side < 0 || side > 1) {
                return -2000000000;
            }
            Integer v = value(m.group(1 + side));
            return v == null ? -2000000000 : v;
        }

        static int sticks(List<Cell> cells) {
            return cells.stream().mapToInt(c -> Integer.bitCount(c.bits)).sum();
        }

        boolean good(List<Cell> cells) {
            if (truth(cells) != 1) {
                return false;
            }
            if (wanted == null) {
                return true;
            }
            Matcher m = SUM.matcher(text(cells));
            m.matches();
            int figures = (int) cells.stream().filter(Cell::figure).count();
            return wanted.of(value(m.group(1)), value(m.group(2)), sticks(cells), figures) != 0;
        }

        List<Integer> choices(boolean figure) {
            return new ArrayList<>(figure ? ways.keySet() : SIGNS.keySet());
        }

        /** All ROWS LIKE one BY t and l, in their order. */
        List<List<Cell>> by(List<Cell> of, int t, int l) {
            List<List<Cell>> all = new ArrayList<>();
            by(of, t, l, new ArrayList<>(), all);
            return all;
        }

        private void by(List<Cell> of, int t, int l, List<Cell> made, List<List<Cell>> all) {
            if (made.size() == of.size()) {
                if (t == 0 && l == 0) {
                    all.add(new ArrayList<>(made));
                }
                return;
            }
            Cell c = of.get(made.size());
            for (int w : choices(c.figure)) {
                int lessT = t - Integer.bitCount(c.bits & ~w);
                int lessL = l - Integer.bitCount(w & ~c.bits);
                if (lessT >= 0 && lessL >= 0) {
                    made.add(new Cell(c.figure, w));
                    by(of, lessT, lessL, made, all);
                    made.remove(made.size() - 1);
                }
            }
        }

        List<List<Cell>> goods(List<List<Cell>> all) {
            List<List<Cell>> some = new ArrayList<>();
            for (List<Cell> r : all) {
                if (good(r)) {
                    some.add(r);
                }
            }
            return some;
        }

        int readAt(List<List<Cell>> all, int i, int c) {
            return all != null && i >= 0 && i < all.size() && c >= 0 && c < row.size() ? read(all.get(i).get(c)) : -1;
        }

        static boolean canBy(int t, int l) {
            return t >= 0 && t <= 3 && l >= 0 && l <= 3;
        }

        int mends(int t, int l) {
            return !canBy(t, l) || row.isEmpty() ? -1 : goods(by(row, t, l)).size();
        }

        int mend(int t, int l, int i, int c) {
            return !canBy(t, l) || row.isEmpty() ? -1 : readAt(goods(by(row, t, l)), i, c);
        }

        int least() {
            for (int k = 0; k <= 3 && !row.isEmpty(); k++) {
                if (mends(k, k) > 0) {
                    return k;
                }
            }
            return -1;
        }

        /** Null: SPENT. */
        List<List<Cell>> as(int k, boolean bySeen) {
            List<List<Integer>> of = new ArrayList<>();
            double product = 1;
            for (int c = 0; c < row.size(); c++) {
                List<Integer> some = choices(row.get(c).figure);
                for (int i = 0; i < seen.size() && bySeen; i++) {
                    Seen s = seen.get(i);
                    boolean known = s.told <= k && !(untold.containsKey(i) && untold.get(i) <= k);
                    if (known && s.cell == c) {
                        some.removeIf(w -> (w >> s.place & 1) != (s.laid ? 1 : 0));
                    }
                }
                of.add(some);
                product *= some.size();
            }
            if (product > 200000) {
                return null;
            }
            List<List<Cell>> all = new ArrayList<>();
            as(of, new ArrayList<>(), all);
            return all;
        }

        private void as(List<List<Integer>> of, List<Cell> made, List<List<Cell>> all) {
            if (made.size() == of.size()) {
                if (good(made)) {
                    all.add(new ArrayList<>(made));
                }
                return;
            }
            for (int w : of.get(made.size())) {
                made.add(new Cell(row.get(made.size()).figure, w));
                as(of, made, all);
                made.remove(made.size() - 1);
            }
        }

        int shape(int n) {
            if (n < 0 || n > 77 || row.isEmpty()) {
                return -1;
            }
            List<List<Cell>> all = as(0, false);
            return all == null ? -2 : (int) all.stream().filter(r -> sticks(r) == n).count();
        }

        int shaped(int n, int i, int c) {
            List<List<Cell>> all = row.isEmpty() ? null : as(0, false);
            if (all == null) {
                return -1;
            }
            all.removeIf(r -> sticks(r) != n);
            return readAt(all, i, c);
        }

        int bound(boolean most) {
            if (row.isEmpty()) {
                return -1;
            }
            List<List<Cell>> all = as(0, false);
            if (all == null) {
                return -2;
            }
            TreeSet<Integer> counts = new TreeSet<>();
            all.forEach(r -> counts.add(sticks(r)));
            return counts.isEmpty() ? -1 : most ? counts.last() : counts.first();
        }

        boolean like() {
            if (row.size() != goal.size() || row.isEmpty()) {
                return false;
            }
            for (int c = 0; c < row.size(); c++) {
                if (row.get(c).figure != goal.get(c).figure) {
                    return false;
                }
            }
            return true;
        }

        int apart(int what) {
            if (!like() || what < 0 || what > 1) {
                return -1;
            }
            int n = 0;
            for (int c = 0; c < row.size(); c++) {
                int a = row.get(c).bits;
                int b = goal.get(c).bits;
                n += Integer.bitCount(what == 0 ? a & ~b : b & ~a);
            }
            return n;
        }

        /** Null: none; empty: SPENT. */
        List<List<Cell>> path() {
            if (!like() || truth(row) != 1 || truth(goal) != 1) {
                return null;
            }
            LinkedHashMap<List<Cell>, List<Cell>> origin = new LinkedHashMap<>();
            origin.put(row, null);
            List<List<Cell>> queue = new ArrayList<>(List.of(row));
            for (int i = 0; i < queue.size() && !origin.containsKey(goal); i++) {
                for (List<Cell> r : by(queue.get(i), 1, 1)) {
                    if (truth(r) == 1 && !origin.containsKey(r)) {
                        origin.put(r, queue.get(i));
                        queue.add(r);
                        if (r.equals(goal)) {
                            break;
                        }
                        if (queue.size() == 151) {
                            return List.of();
                        }
                    }
                }
            }
            if (!origin.containsKey(goal)) {
                return null;
            }
            List<List<Cell>> path = new ArrayList<>();
            for (List<Cell> r = goal; r != null; r = origin.get(r)) {
                path.add(0, r);
            }
            return path;
        }

        int steps() {
            List<List<Cell>> path = path();
            return path == null ? -1 : path.isEmpty() ? -2 : path.size() - 1;
        }

        int step(int moves, int c) {
            return readAt(path(), moves, c);
        }

        int puzzle(int k, int c) {
            if (k < 1 || k > 2 || truth(row) != 1 || c < 0 || c >= row.size()) {
                return -1;
            }
            int looked = 0;
            for (List<Cell> r : by(row, k, k)) {
                if (truth(r) == 0 && looked++ < 200) {
                    if (by(r, k, k).stream().filter(x -> truth(x) == 1).count() == 1) {
                        return read(r.get(c));
                    }
                }
            }
            return -1;
        }

        List<Cell> turn(int way) {
            String[] swaps = {"031425", "1524", "031245"};
            List<Cell> made = new ArrayList<>();
            for (Cell c : row) {
                String swap = c.figure ? swaps[way] : way == 0 ? "" : "34";
                int bits = c.bits;
                for (int i = 0; i < swap.length(); i += 2) {
                    int p = swap.charAt(i) - '0';
                    int q = swap.charAt(i + 1) - '0';
                    boolean differ = (c.bits >> p & 1) != (c.bits >> q & 1);
                    bits ^= differ ? 1 << p | 1 << q : 0;
                }
                made.add(way == 2 ? made.size() : 0, new Cell(c.figure, bits));
            }
            return made;
        }

        int turned(int way, int c) {
            return way < 0 || way > 2 || c < 0 || c >= row.size() ? -1 : read(turn(way).get(c));
        }

        int turnedTrue(int way) {
            return way < 0 || way > 2 ? -1 : truth(turn(way));
        }

        int seen(int c, int p, boolean laid) {
            if (!hasPlace(c, p) || seen.size() == 60) {
                return -1;
            }
            seen.add(new Seen(c, p, laid, time));
            return seen.size() - 1;
        }

        boolean untell(int s) {
            return s >= 0 && s < seen.size() && untold.putIfAbsent(s, time) == null;
        }

        int later(int by) {
            if (by < 0 || by > 1000 || time + by > 100000) {
                return -1;
            }
            return time += by;
        }

        int could(int k) {
            List<List<Cell>> all = row.isEmpty() ? null : as(k, true);
            return row.isEmpty() ? -1 : all == null ? -2 : all.size();
        }

        int couldBe(int k, int i, int c) {
            return row.isEmpty() ? -1 : readAt(as(k, true), i, c);
        }

        int next(int k, int what) {
            if (row.isEmpty() || what < 0 || what > 1) {
                return -1;
            }
            List<List<Cell>> all = as(k, true);
            if (all == null) {
                return -2;
            }
            int least = Integer.MAX_VALUE;
            int answer = -1;
            for (int c = 0; c < row.size() && all.size() > 1; c++) {
                for (int p = 0; p < (row.get(c).figure ? 7 : 5); p++) {
                    int with = 0;
                    for (List<Cell> r : all) {
                        with += r.get(c).bits >> p & 1;
                    }
                    if (Math.max(with, all.size() - with) < least) {
                        least = Math.max(with, all.size() - with);
                        answer = what == 0 ? c : p;
                    }
                }
            }
            return answer;
        }

        /** The numbers of just so many figures that so many sticks lay. */
        TreeSet<Integer> laidBy(int sticks, int figures) {
            TreeSet<Integer> all = new TreeSet<>();
            if (figures == 0) {
                if (sticks == 0) {
                    all.add(0);
                }
                return all;
            }
            ways.forEach((w, d) -> {
                int rest = sticks - Integer.bitCount(w);
                if (rest >= 0) {
                    for (int n : laidBy(rest, figures - 1)) {
                        all.add(n * 10 + d);
                    }
                }
            });
            return all;
        }

        TreeSet<Integer> numbersBy(int sticks, int figures) {
            if (sticks < 1 || sticks > 35 || figures < 1 || figures > 5) {
                return null;
            }
            TreeSet<Integer> all = laidBy(sticks, figures);
            all.removeIf(n -> String.valueOf(n).length() != figures);
            return all;
        }

        int extreme(int sticks, int figures, boolean great) {
            TreeSet<Integer> all = numbersBy(sticks, figures);
            return all == null || all.isEmpty() ? -1 : great ? all.last() : all.first();
        }

        int numbers(int sticks, int figures) {
            TreeSet<Integer> all = numbersBy(sticks, figures);
            return all == null ? -1 : all.size();
        }

        int grundyOf(Cell c) {
            if (!c.figure || !ways.containsKey(c.bits)) {
                return 0;
            }
            Set<Integer> met = new HashSet<>();
            for (int w : ways.keySet()) {
                if (w != c.bits && (w | c.bits) == c.bits) {
                    met.add(grundyOf(new Cell(true, w)));
                }
            }
            int g = 0;
            while (met.contains(g)) {
                g++;
            }
            return g;
        }

        int grundy(int c) {
            return c >= 0 && c < row.size() ? grundyOf(row.get(c)) : -1;
        }

        int wins(int what) {
            for (int c = 0; c < row.size() && what >= 0 && what <= 1; c++) {
                Cell here = row.get(c);
                for (int w : ways.keySet()) {
                    boolean canTake = here.figure && ways.containsKey(here.bits) && w != here.bits && (w | here.bits) == here.bits;
                    if (canTake) {
                        List<Cell> then = new ArrayList<>(row);
                        then.set(c, new Cell(true, w));
                        int all = 0;
                        for (Cell x : then) {
                            all ^= grundyOf(x);
                        }
                        if (all == 0) {
                            return what == 0 ? c : ways.get(w);
                        }
                    }
                }
            }
            return -1;
        }

        int keep(int box) {
            if (box < 0 || box > 2 || row.isEmpty()) {
                return -1;
            }
            boxes.set(box, row);
            return row.size();
        }

        int back(int box) {
            if (box < 0 || box > 2 || boxes.get(box) == null) {
                return -1;
            }
            row = boxes.get(box);
            another();
            return row.size();
        }

        int about(int what) {
            int[] all = {row.size(), sticks(row), goal.size(), seen.size(), time, tape.length(), before.size(), units};
            return what >= 0 && what < all.length ? all[what] : -1;
        }
    }

    /** One run of calls by chance, the same for the same number. */
    static final class Run {
        private final int name;
        private final Random dice;
        private final StickSums real = new StickSums();
        private final Model model = new Model();
        private final List<String> told = new ArrayList<>();
        private int calls = 0;

        Run(int name) {
            this.name = name;
            this.dice = new Random(name * 7919L + 17);
        }

        int play() {
            int most = 60 + dice.nextInt(200);
            while (calls < most && calls < 480) {
                int before = wrong;
                turn();
                if (tellIfWrong(before)) {
                    break;
                }
            }
            return calls;
        }

        private boolean tellIfWrong(int before) {
            if (wrong > before) {
                System.out.println("run " + name + ":");
                told.forEach(t -> System.out.println("  " + t));
            }
            return wrong > before;
        }

        int path(String from, String to) {
            write(from);
            due("lay", real.lay(), model.lay());
            write(to);
            due("goal", real.goal(), model.goal());
            due("steps from " + from + " to " + to, real.steps(), model.steps());
            for (int m = 1; m <= 12; m += 5) {
                due("step " + m, real.step(m, 0), model.step(m, 0));
            }
            tellIfWrong(0);
            return calls;
        }

        int puzzle(String text) {
            write(text);
            due("lay", real.lay(), model.lay());
            for (int c = 0; c < text.length(); c++) {
                due("puzzle of " + text + " " + c, real.puzzle(2, c), model.puzzle(2, c));
            }
            tellIfWrong(0);
            return calls;
        }

        private int any(int least, int most) {
            return least + dice.nextInt(most - least + 1);
        }

        private void due(String call, long got, long want) {
            calls++;
            told.add(call + " " + got);
            if (got != want) {
                wrong++;
                told.add("due was " + want);
            }
        }

        private void due(String call, boolean got, boolean want) {
            due(call, got ? 1 : 0, want ? 1 : 0);
        }

        private void write(String text) {
            told.add("text '" + text + "'");
            String rest = text;
            while (!rest.isEmpty()) {
                int[] five = new int[5];
                for (int i = 0; i < 20; i++) {
                    int b = i < rest.length() ? rest.charAt(i) : dice.nextInt(256);
                    five[i / 4] = five[i / 4] << 8 | b;
                }
                due("feed", real.feed(five[0], five[1], five[2], five[3], five[4]), model.feed(five));
                rest = rest.length() > 20 ? rest.substring(20) : "";
            }
            due("end " + text.length(), real.end(text.length()), model.end(text.length()));
        }

        private String spoilt(String text) {
            StringBuilder b = new StringBuilder(text);
            int times = dice.nextInt(5) == 0 ? any(1, 3) : 0;
            for (int i = 0; i < times; i++) {
                String odd = "0123456789+-=*/();<> \nazdigtsor#\u00e9";
                char c = odd.charAt(dice.nextInt(odd.length()));
                int at = dice.nextInt(b.length() + 1);
                int how = dice.nextInt(3);
                if (how == 0 || b.length() == 0) {
                    b.insert(at, c);
                } else if (how == 1) {
                    b.deleteCharAt(Math.min(at, b.length() - 1));
                } else {
                    b.setCharAt(Math.min(at, b.length() - 1), c);
                }
            }
            return b.toString();
        }

        private String someNumber(int digits) {
            StringBuilder b = new StringBuilder();
            for (int i = 0; i < digits; i++) {
                b.append((char) any(i == 0 && digits > 1 ? '1' : '0', '9'));
            }
            return b.toString();
        }

        private String someSide() {
            StringBuilder b = new StringBuilder(someNumber(any(1, dice.nextInt(3) == 0 ? 3 : 2)));
            while (dice.nextInt(5) < 2) {
                b.append("+-+-*/".charAt(dice.nextInt(6))).append(someNumber(any(1, 2)));
            }
            return b.toString();
        }

        private String someSum() {
            for (int tries = 0; tries < 1000; tries++) {
                String s = someSide() + "=" + someSide();
                if (dice.nextInt(3) > 0) {
                    String side = someSide();
                    Integer v = Model.value(side);
                    s = v == null || v < 0 || v > 9999 ? s : dice.nextBoolean() ? side + "=" + v : v + "=" + side;
                }
                int most = dice.nextInt(4) == 0 ? 11 : 6;
                if (s.length() <= most) {
                    return dice.nextInt(6) == 0 ? s.replace("=", " = ").replace("1", "\n1") : s;
                }
            }
            return "1=1";
        }

        private String blank() {
            return new String[] {" ", " ", "\n", "  "}[dice.nextInt(4)];
        }

        private String someForms() {
            StringBuilder b = new StringBuilder();
            int lines = any(0, dice.nextInt(4) == 0 ? 10 : 3);
            List<Integer> left = new ArrayList<>();
            List<Integer> free = new ArrayList<>();
            for (int w = 1; w < 128; w++) {
                free.add(w);
            }
            for (int d = 0; d < 10; d++) {
                left.add(d);
                free.remove((Integer) Model.AT_FIRST[d]);
            }
            for (int i = 0; i < lines; i++) {
                int d = left.remove(dice.nextInt(left.size()));
                int own = Model.AT_FIRST[d];
                int w = dice.nextBoolean() ? own : free.remove(dice.nextInt(free.size()));
                b.append("digit").append(blank()).append(d).append(blank()).append("as").append(blank()).append(w);
                if (dice.nextBoolean()) {
                    b.append(blank()).append("or").append(blank());
                    b.append(dice.nextInt(12) == 0 ? 127 : free.remove(dice.nextInt(free.size())));
                }
                b.append(dice.nextInt(3) == 0 ? " ;" : ";");
            }
            return b.length() > 300 ? "" : b.toString();
        }

        private String someUnit(int deep) {
            if (deep < 8 && dice.nextInt(5) == 0) {
                return "(" + someLaw(deep + 1) + ")";
            }
            String[] of = {"left", "right", "sticks", "figures", "" + dice.nextInt(30), "0", "9999"};
            return of[dice.nextInt(of.length)];
        }

        private String someLaw(int deep) {
            StringBuilder b = new StringBuilder();
            if (deep == 0 && dice.nextInt(8) == 0) {
                b.append("not ".repeat(any(5, 8)));
            }
            for (int i = 0; i < 2 && dice.nextInt(6) == 0; i++) {
                b.append("not ");
            }
            b.append(someUnit(deep));
            while (dice.nextInt(3) == 0) {
                b.append("+-*".charAt(dice.nextInt(3))).append(someUnit(deep));
            }
            if (dice.nextInt(2) == 0) {
                b.append("<>=".charAt(dice.nextInt(3))).append(someUnit(deep));
            }
            if (dice.nextInt(4) == 0) {
                b.append(dice.nextBoolean() ? " and " : " or ").append(someLaw(deep + 1));
            }
            return b.toString();
        }

        private String someWanted() {
            if (dice.nextInt(3) == 0) {
                return dice.nextBoolean() ? "" : " \n";
            }
            if (dice.nextInt(10) == 0) {
                return "1" + "+1".repeat(any(37, 42));
            }
            if (dice.nextInt(10) == 0) {
                int n = any(5, 9);
                return "(".repeat(n) + "1" + ")".repeat(n);
            }
            String s = someLaw(0);
            return s.length() > 280 ? "left>0" : s;
        }

        private void turn() {
            if (model.row.isEmpty() && dice.nextInt(4) > 0) {
                layOne();
                return;
            }
            switch (dice.nextInt(24)) {
                case 0: case 1: case 2: layOne(); break;
                case 3: case 4: tellOne(); break;
                case 5: case 6: case 7: touch(); break;
                case 8: see(); break;
                case 9: case 10: case 11: askSmall(); break;
                default: askLists(); break;
            }
        }

        private int someCell() {
            int n = model.row.size();
            return n > 0 && dice.nextInt(8) > 0 ? dice.nextInt(n) : any(-1, 11);
        }

        private void layOne() {
            write(spoilt(someSum()));
            if (dice.nextInt(3) > 0) {
                due("lay", real.lay(), model.lay());
                faults();
            }
            if (dice.nextInt(2) == 0 && model.row.size() > 0) {
                write(dice.nextInt(3) == 0 ? spoilt(someSum()) : likeSum());
                due("goal", real.goal(), model.goal());
                faults();
                due("steps", real.steps(), model.steps());
            }
            due("isTrue", real.isTrue(), model.isTrue());
        }

        /** A TRUE SUM some moves from THE ROW, if there is one. */
        private String likeSum() {
            List<Model.Cell> at = model.row;
            for (int i = 0; i < 3 && model.truth(at) == 1; i++) {
                List<List<Model.Cell>> all = model.by(at, 1, 1);
                all.removeIf(r -> model.truth(r) != 1);
                at = all.isEmpty() ? at : all.get(dice.nextInt(all.size()));
            }
            return model.text(at);
        }

        private void faults() {
            due("fault 0", real.fault(0), model.fault(0));
            due("fault 1", real.fault(1), model.fault(1));
        }

        private void tellOne() {
            if (dice.nextInt(4) == 0) {
                write(spoilt(someForms()));
                due("forms", real.forms(), model.forms());
            } else {
                write(spoilt(someWanted()));
                due("wanted", real.wanted(), model.wanted());
            }
            faults();
            for (int d = -1; d <= 10 && dice.nextInt(3) == 0; d++) {
                due("way " + d, real.way(d, 0), model.way(d, 0));
                due("way " + d, real.way(d, 1), model.way(d, 1));
            }
        }

        private void touch() {
            int many = dice.nextInt(10) == 0 ? 30 : any(1, 2);
            for (int i = 0; i < many; i++) {
                int c = someCell();
                int p = any(-1, 7);
                boolean lies = model.hasPlace(c, p) && (model.row.get(c).bits() >> p & 1) == 1;
                boolean laid = dice.nextInt(5) > 0 ? !lies : lies;
                due("stick " + c + " " + p + " " + laid, real.stick(c, p, laid), model.stick(c, p, laid));
            }
            int back = dice.nextInt(3) > 0 ? any(0, many + 1) : 0;
            for (int i = 0; i < back; i++) {
                due("undo", real.undo(), model.undo());
            }
            for (int i = 0; i < back && dice.nextInt(3) > 0; i++) {
                due("redo", real.redo(), model.redo());
            }
            int box = any(-1, 3);
            if (dice.nextBoolean()) {
                due("keep " + box, real.keep(box), model.keep(box));
            } else if (dice.nextInt(3) == 0) {
                due("back " + box, real.back(box), model.back(box));
            }
            int c = someCell();
            due("cell " + c, real.cell(c), model.cell(c));
            due("says " + c, real.says(c), model.says(c));
        }

        private void see() {
            int many = any(1, 6);
            for (int i = 0; i < many; i++) {
                int c = someCell();
                int p = any(-1, 7);
                boolean laid = c >= 0 && c < model.row.size() && dice.nextInt(8) > 0
                    ? (model.row.get(c).bits() >> Math.max(0, p) & 1) == 1 : dice.nextBoolean();
                due("seen " + c + " " + p + " " + laid, real.seen(c, p, laid), model.seen(c, p, laid));
            }
            int by = dice.nextInt(5) == 0 ? any(-1, 1001) : any(0, 2);
            due("later " + by, real.later(by), model.later(by));
            int s = any(-1, model.seen.size());
            if (dice.nextInt(3) == 0) {
                due("untell " + s, real.untell(s), model.untell(s));
            }
        }

        private void askSmall() {
            int c = someCell();
            int what = any(-1, 8);
            due("about " + what, real.about(what), model.about(what));
            due("apart", real.apart(what % 3), model.apart(what % 3));
            due("grundy " + c, real.grundy(c), model.grundy(c));
            due("wins 0", real.wins(0), model.wins(0));
            due("wins 1", real.wins(1), model.wins(1));
            int way = any(-1, 3);
            due("turned " + way + " " + c, real.turned(way, c), model.turned(way, c));
            due("turnedTrue " + way, real.turnedTrue(way), model.turnedTrue(way));
            int side = any(-1, 2);
            due("worth " + side, real.worth(side), model.worth(side));
            int sticks = any(0, 36);
            int figures = any(0, dice.nextInt(20) == 0 ? 6 : 3);
            boolean great = dice.nextBoolean();
            due("extreme " + sticks + " " + figures + " " + great,
                real.extreme(sticks, figures, great), model.extreme(sticks, figures, great));
            due("numbers " + sticks + " " + figures, real.numbers(sticks, figures), model.numbers(sticks, figures));
        }

        private void askLists() {
            int c = someCell();
            int i = dice.nextInt(4) == 0 ? any(-1, 500) : any(0, 1);
            boolean isLong = model.row.size() > 7;
            switch (dice.nextInt(isLong ? 3 : 7)) {
                case 0: {
                    int t = any(-1, isLong ? 2 : 4);
                    int l = dice.nextBoolean() ? t : any(-1, isLong ? 2 : 4);
                    due("mends " + t + " " + l, real.mends(t, l), model.mends(t, l));
                    due("mend " + t + " " + l + " " + i + " " + c, real.mend(t, l, i, c), model.mend(t, l, i, c));
                    break;
                }
                case 1: {
                    int m = any(-1, 3);
                    due("steps", real.steps(), model.steps());
                    due("step " + m + " " + c, real.step(m, c), model.step(m, c));
                    break;
                }
                case 2: {
                    int k = any(0, isLong ? 1 : 3);
                    due("puzzle " + k + " " + c, real.puzzle(k, c), model.puzzle(k, c));
                    break;
                }
                case 3: {
                    boolean most = dice.nextBoolean();
                    due("bound " + most, real.bound(most), model.bound(most));
                    break;
                }
                case 4: {
                    int n = dice.nextInt(5) == 0 ? any(-1, 78) : any(8, 25);
                    due("shape " + n, real.shape(n), model.shape(n));
                    due("shaped " + n + " " + i + " " + c, real.shaped(n, i, c), model.shaped(n, i, c));
                    break;
                }
                case 5: {
                    due("least", real.least(), model.least());
                    break;
                }
                default: {
                    int k = any(-1, model.time + 1);
                    due("could " + k, real.could(k), model.could(k));
                    due("couldBe " + k + " " + i + " " + c, real.couldBe(k, i, c), model.couldBe(k, i, c));
                    int what = any(-1, 2);
                    due("next " + k + " " + what, real.next(k, what), model.next(k, what));
                    break;
                }
            }
        }
    }
}
