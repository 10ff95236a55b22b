import java.math.BigInteger;
import java.util.ArrayList;
import java.util.Arrays;
import java.util.HashMap;
import java.util.List;
import java.util.Map;
import java.util.regex.Matcher;
import java.util.regex.Pattern;

/**
 * The document once more, word for word and by trying everything, with no thought of speed: what the class answers
 * is held against it. It shares no code with the class.
 */
final class Model {
    static final int NONE = -1;

    static final class Saying {
        int wit, fade, fizz, rise, cork, place;
        boolean gone, wired, tainted;

        Saying(int... n) {
            wit = n[0]; fade = n[1]; fizz = n[2]; rise = n[3]; cork = n[4]; place = n[5];
        }

        Saying copy() {
            return new Saying(wit, fade, fizz, rise, cork, place);
        }
    }

    static final class Cellar {
        int shock = 3, reach = 1;
        List<Saying> sayings = new ArrayList<>();
        boolean[][] answers = new boolean[7][7];

        Cellar copy() {
            Cellar c = new Cellar();
            c.shock = shock;
            c.reach = reach;
            for (Saying s : sayings) c.sayings.add(s.copy());
            c.answers = answers;
            return c;
        }

        int size() {
            return sayings.size();
        }
    }

    /** word and numbers of each line */
    record Line(String word, List<Integer> numbers) { }

    byte[] tape = new byte[0];
    int fault = 0, faultPlace = NONE;
    List<Cellar> cellars = new ArrayList<>();
    List<List<Line>> years = new ArrayList<>();
    List<List<Line>> logs = new ArrayList<>();
    Model[] images = new Model[3];

    // ---- texts

    int feed(int... numbers) {
        if (tape.length + 20 > 600) return NONE;
        byte[] longer = Arrays.copyOf(tape, tape.length + 20);
        for (int i = 0; i < 20; i++) longer[tape.length + i] = (byte) (numbers[i / 4] >>> (24 - 8 * (i % 4)));
        tape = longer;
        return tape.length;
    }

    int end(int n) {
        if (n < 0 || n > tape.length) return NONE;
        tape = Arrays.copyOf(tape, n);
        return n;
    }

    List<?> sort(int sort) {
        return sort == 0 ? cellars : sort == 1 ? years : sort == 2 ? logs : null;
    }

    record Token(String text, int place) { }

    int text(int sort, int at) {
        fault = 0;
        faultPlace = NONE;
        String text = new String(tape, java.nio.charset.StandardCharsets.ISO_8859_1);
        tape = new byte[0];
        List<?> all = sort(sort);
        if (all == null) return -2;
        if (at == NONE ? all.size() >= 2 : at < 0 || at >= all.size()) return -2;
        List<Token> tokens = tokens(text);
        int bad = firstBad(sort, tokens, text.length());
        if (bad != NONE) {
            fault = 1;
            faultPlace = bad;
            return NONE;
        }
        return told(sort, at, tokens, text.length());
    }

    static List<Token> tokens(String text) {
        Matcher m = Pattern.compile("[a-z]+|[0-9]+|[^a-z0-9 \n]", Pattern.DOTALL).matcher(text);
        List<Token> tokens = new ArrayList<>();
        while (m.find()) tokens.add(new Token(m.group(), m.start()));
        return tokens;
    }

    static final String[] GRAMMAR = {"((S|R)N;|YNNNNNN;|ANN;)*", "(X;|[OWT]N;|MNN;)*", "(HNN;)*"};
    static final Map<String, String> LETTER = new HashMap<>();
    static {
        String[] pairs = {"shock", "S", "reach", "R", "saying", "Y", "answers", "A", "year", "X", "open", "O",
            "wire", "W", "taint", "T", "move", "M", "heard", "H", ";", ";"};
        for (int i = 0; i < pairs.length; i += 2) LETTER.put(pairs[i], pairs[i + 1]);
    }

    /** The shortest row of tokens with which no text of the grammar goes on ends with the bad one. */
    static int firstBad(int sort, List<Token> tokens, int length) {
        Pattern grammar = Pattern.compile(GRAMMAR[sort]);
        StringBuilder row = new StringBuilder();
        for (Token t : tokens) {
            row.append(t.text.matches("[0-9]{1,2}") ? "N" : LETTER.getOrDefault(t.text, "?"));
            boolean goesOn = false;
            for (String more : new String[] {"", ";", "N;", "NN;", "NNN;", "NNNN;", "NNNNN;", "NNNNNN;"}) {
                goesOn |= grammar.matcher(row + more).matches();
            }
            if (!goesOn) return t.place;
        }
        return grammar.matcher(row).matches() ? NONE : length;
    }

    private static final Map<String, int[][]> RANGES = new HashMap<>();
    static {
        int[] saying = {0, 6};
        RANGES.put("shock", new int[][] {{0, 9}});
        RANGES.put("reach", new int[][] {{0, 9}});
        RANGES.put("saying", new int[][] {{0, 30}, {0, 5}, {0, 30}, {0, 5}, {1, 40}, {0, 20}});
        RANGES.put("answers", new int[][] {saying, saying});
        RANGES.put("year", new int[][] {});
        RANGES.put("open", new int[][] {saying});
        RANGES.put("wire", new int[][] {saying});
        RANGES.put("taint", new int[][] {saying});
        RANGES.put("move", new int[][] {saying, {0, 20}});
        RANGES.put("heard", new int[][] {{1, 20}, {0, 7}});
    }

    @SuppressWarnings("unchecked")
    int told(int sort, int at, List<Token> tokens, int length) {
        List<int[]> faults = new ArrayList<>();
        List<Line> lines = new ArrayList<>();
        int counted = 0;
        for (int i = 0; i < tokens.size(); ) {
            Token word = tokens.get(i++);
            int[][] ranges = RANGES.get(word.text);
            if (sort != 0 || word.text.equals("saying")) {
                counted++;
                if (counted > new int[] {7, 40, 8}[sort]) faults.add(new int[] {word.place, 3});
            }
            List<Integer> numbers = new ArrayList<>();
            for (int[] range : ranges) {
                Token number = tokens.get(i++);
                int n = Integer.parseInt(number.text);
                if (n < range[0] || n > range[1]) faults.add(new int[] {number.place, 2});
                if (word.text.equals("answers") && numbers.size() == 1 && numbers.get(0) == n) {
                    faults.add(new int[] {number.place, 2});
                }
                numbers.add(n);
            }
            lines.add(new Line(word.text, numbers));
            i++;
        }
        if (faults.isEmpty() && sort == 0) {
            for (Line l : lines) {
                for (int n : l.numbers) {
                    if (l.word.equals("answers") && n >= counted) faults.add(new int[] {length, 4});
                }
            }
        }
        if (!faults.isEmpty()) {
            faults.sort((a, b) -> a[0] != b[0] ? a[0] - b[0] : a[1] - b[1]);
            fault = faults.get(0)[1];
            faultPlace = faults.get(0)[0];
            return NONE;
        }
        List<Object> all = (List<Object>) sort(sort);
        Object made = sort == 0 ? cellarOf(lines) : lines;
        if (at == NONE) {
            all.add(made);
            return all.size() - 1;
        }
        all.set(at, made);
        return at;
    }

    static Cellar cellarOf(List<Line> lines) {
        Cellar c = new Cellar();
        for (Line l : lines) {
            switch (l.word) {
                case "shock" -> c.shock = l.numbers.get(0);
                case "reach" -> c.reach = l.numbers.get(0);
                case "saying" -> c.sayings.add(new Saying(l.numbers.stream().mapToInt(n -> n).toArray()));
                default -> c.answers[l.numbers.get(0)][l.numbers.get(1)] = true;
            }
        }
        return c;
    }

    int faultOf(int what) {
        return what == 0 ? fault : what == 1 ? faultPlace : NONE;
    }

    <T> T get(List<T> all, int i) {
        return i < 0 || i >= all.size() ? null : all.get(i);
    }

    int cellar(int cellar, int what) {
        Cellar c = get(cellars, cellar);
        if (c == null) return NONE;
        if (what == 0) return c.shock;
        if (what == 1) return c.reach;
        if (what == 2) return c.size();
        for (int s = 0; s < c.size(); s++) {
            Saying x = c.sayings.get(s);
            if (what == 10 + s) return x.wit;
            if (what == 20 + s) return x.fade;
            if (what == 30 + s) return x.fizz;
            if (what == 40 + s) return x.rise;
            if (what == 50 + s) return x.cork;
            if (what == 60 + s) return x.place;
            if (what == 70 + s) {
                int bits = 0;
                for (int t = 0; t < 7; t++) if (c.answers[s][t]) bits += 1 << t;
                return bits;
            }
        }
        return NONE;
    }

    int deed(int year, int k, int what) {
        List<Line> d = get(years, year);
        if (d == null) return -2;
        if (k == NONE && what == 0) return d.size();
        Line l = get(d, k);
        if (l == null) return -2;
        if (what == 0) return List.of("year", "open", "wire", "taint", "move").indexOf(l.word);
        if (what == 1 || what == 2) return l.numbers.size() >= what ? l.numbers.get(what - 1) : NONE;
        return -2;
    }

    int fact(int log, int k, int what) {
        List<Line> d = get(logs, log);
        if (d == null) return -2;
        if (k == NONE && what == 0) return d.size();
        Line l = get(d, k);
        if (l == null || what < 0 || what > 1) return -2;
        return l.numbers.get(what);
    }

    // ---- years

    /** One course of years. */
    static final class Course {
        final Cellar c;
        int year, heard, bursts, waste, spoilt, moves;
        int fond = NONE, fondWit = NONE;
        int[] in = new int[60];

        Course(Cellar told) {
            c = told.copy();
        }

        boolean can(String word, int s, int place) {
            if (word.equals("year")) return year < 50;
            if (s >= c.size()) return false;
            Saying x = c.sayings.get(s);
            if (x.gone) return false;
            return switch (word) {
                case "open" -> true;
                case "wire" -> !x.wired;
                case "taint" -> !x.tainted;
                default -> x.place != place;
            };
        }

        void perform(String word, int s, int place) {
            if (word.equals("year")) {
                for (Saying x : c.sayings) {
                    if (!x.gone) {
                        for (int i = 0; i < x.fade; i++) if (x.wit > 0) x.wit--;
                        x.fizz += x.rise;
                    }
                }
                year++;
                burstAll();
                return;
            }
            Saying x = c.sayings.get(s);
            switch (word) {
                case "open" -> {
                    x.gone = true;
                    if (x.tainted) {
                        spoilt++;
                    } else {
                        heard += x.wit;
                        if (x.wit > fondWit || x.wit == fondWit && s < fond) {
                            fond = s;
                            fondWit = x.wit;
                        }
                    }
                }
                case "wire" -> {
                    x.wired = true;
                    x.cork += 5;
                }
                case "taint" -> x.tainted = true;
                default -> {
                    x.place = place;
                    moves++;
                }
            }
        }

        void burst(int s) {
            Saying x = c.sayings.get(s);
            x.gone = true;
            bursts++;
            in[year]++;
            waste += x.wit;
            for (Saying y : c.sayings) {
                if (y != x && !y.gone && Math.abs(y.place - x.place) <= c.reach) y.fizz += c.shock;
            }
        }

        void burstAll() {
            boolean more = true;
            while (more) {
                more = false;
                for (int s = 0; s < c.size() && !more; s++) {
                    Saying x = c.sayings.get(s);
                    if (!x.gone && x.fizz > x.cork) {
                        burst(s);
                        more = true;
                    }
                }
            }
        }

        int gone() {
            int bits = 0;
            for (int s = 0; s < c.size(); s++) if (c.sayings.get(s).gone) bits |= 1 << s;
            return bits;
        }

        int look(int what) {
            int wired = 0, tainted = 0;
            for (int s = 0; s < c.size(); s++) {
                Saying x = c.sayings.get(s);
                if (x.wired) wired |= 1 << s;
                if (x.tainted) tainted |= 1 << s;
                if (what == 10 + s) return x.wit;
                if (what == 20 + s) return x.fizz;
                if (what == 30 + s) return x.cork;
                if (what == 40 + s) return x.place;
            }
            int[] rest = {year, heard, bursts, gone(), wired, tainted};
            return what >= 0 && what < 6 ? rest[what] : NONE;
        }
    }

    static int number(Line l, int i) {
        return l.numbers.size() > i ? l.numbers.get(i) : NONE;
    }

    int till(int cellar, int year) {
        Cellar c = get(cellars, cellar);
        List<Line> d = get(years, year);
        if (c == null || d == null) return NONE;
        Course course = new Course(c);
        for (int k = 0; k < d.size(); k++) {
            Line l = d.get(k);
            if (!course.can(l.word, number(l, 0), number(l, 1))) return k;
            course.perform(l.word, number(l, 0), number(l, 1));
        }
        return d.size();
    }

    Course behind(int cellar, int year, int n) {
        Course course = new Course(cellars.get(cellar));
        for (Line l : years.get(year).subList(0, n)) course.perform(l.word, number(l, 0), number(l, 1));
        return course;
    }

    int state(int cellar, int year, int n, int what) {
        int end = till(cellar, year);
        if (end == NONE || n < 0 || n > end) return NONE;
        return behind(cellar, year, n).look(what);
    }

    int drawn(int cellar, int seed, int n, int what) {
        Cellar c = get(cellars, cellar);
        if (c == null || n < 0 || n > 60) return NONE;
        Course course = new Course(c);
        BigInteger[] x = {BigInteger.valueOf(seed & 0xffffffffL)};
        for (int i = 0; i < n; i++) {
            int first = draw(x, 10);
            if (first <= 3) {
                if (course.can("year", NONE, NONE)) course.perform("year", NONE, NONE);
            } else if (c.size() > 0) {
                String word = first <= 5 ? "open" : first == 6 ? "wire" : first == 7 ? "taint" : "move";
                int s = draw(x, c.size());
                int place = word.equals("move") ? draw(x, 21) : NONE;
                if (course.can(word, s, place)) course.perform(word, s, place);
            }
        }
        return course.look(what);
    }

    static int draw(BigInteger[] x, int n) {
        x[0] = x[0].multiply(BigInteger.valueOf(1103515245)).add(BigInteger.valueOf(12345)).mod(BigInteger.ONE.shiftLeft(32));
        return (int) (x[0].shiftRight(16).longValue() % n);
    }

    int after(int cellar, int year, int what) {
        int end = till(cellar, year);
        if (end == NONE) return -2;
        Course course = behind(cellar, year, end);
        int first = NONE, most = NONE;
        for (int y = 0; y < 60; y++) {
            if (course.in[y] > 0 && first == NONE) first = y;
            if (course.in[y] > 0 && (most == NONE || course.in[y] > course.in[most])) most = y;
        }
        int[] all = {first, most, course.fond, course.waste, course.spoilt, course.moves};
        return what >= 0 && what < 6 ? all[what] : -2;
    }

    // ---- of a cellar as told

    static int trainOf(Cellar c, int s) {
        Course course = new Course(c);
        course.burst(s);
        course.burstAll();
        return course.gone();
    }

    int train(int cellar, int s) {
        Cellar c = get(cellars, cellar);
        return c == null || s < 0 || s >= c.size() ? NONE : trainOf(c, s);
    }

    static int greatest(Cellar c) {
        int most = 0;
        for (int s = 0; s < c.size(); s++) most = Math.max(most, Integer.bitCount(trainOf(c, s)));
        return most;
    }

    static List<List<Integer>> rows(List<Integer> of) {
        if (of.isEmpty()) return List.of(List.of());
        List<List<Integer>> all = new ArrayList<>();
        for (int i = 0; i < of.size(); i++) {
            List<Integer> rest = new ArrayList<>(of);
            int first = rest.remove(i);
            for (List<Integer> row : rows(rest)) {
                List<Integer> whole = new ArrayList<>();
                whole.add(first);
                whole.addAll(row);
                all.add(whole);
            }
        }
        return all;
    }

    static List<Integer> numbers(Cellar c) {
        List<Integer> all = new ArrayList<>();
        for (int s = 0; s < c.size(); s++) all.add(s);
        return all;
    }

    static boolean isLess(List<Integer> a, List<Integer> b) {
        for (int i = 0; i < Math.min(a.size(), b.size()); i++) {
            if (!a.get(i).equals(b.get(i))) return a.get(i) < b.get(i);
        }
        return a.size() < b.size();
    }

    /** the number, then the row */
    static int[] layingOf(Cellar told) {
        Cellar c = told.copy();
        List<Integer> places = new ArrayList<>();
        for (Saying s : c.sayings) places.add(s.place);
        int best = 99;
        List<Integer> bestRow = null;
        for (List<Integer> row : rows(places)) {
            for (int s = 0; s < c.size(); s++) c.sayings.get(s).place = row.get(s);
            int number = greatest(c);
            if (number < best || number == best && isLess(row, bestRow)) {
                best = number;
                bestRow = row;
            }
        }
        int[] all = new int[c.size() + 1];
        all[0] = best;
        for (int s = 0; s < c.size(); s++) all[s + 1] = bestRow.get(s);
        return all;
    }

    int laying(int cellar, int k) {
        Cellar c = get(cellars, cellar);
        if (c == null || k < NONE || k >= c.size()) return NONE;
        return layingOf(c)[k + 1];
    }

    static int lifeOf(Cellar c, int s) {
        Cellar alone = new Cellar();
        alone.sayings.add(c.sayings.get(s).copy());
        Course course = new Course(alone);
        while (course.year < 50 && course.bursts == 0) course.perform("year", NONE, NONE);
        return course.bursts > 0 ? course.year : NONE;
    }

    int life(int cellar, int s) {
        Cellar c = get(cellars, cellar);
        return c == null || s < 0 || s >= c.size() ? NONE : lifeOf(c, s);
    }

    static int witIn(Cellar c, int s, int year) {
        int w = c.sayings.get(s).wit - year * c.sayings.get(s).fade;
        return w < 0 ? 0 : w;
    }

    /** All plans one after the other in the order of rows; the first of the best is kept. */
    static void plans(Cellar c, int n, int[] row, int year, int opened, int sum, int[] best, int[] lives) {
        if (year == n) {
            if (sum > best[0]) {
                best[0] = sum;
                System.arraycopy(row, 0, best, 1, n);
            }
            return;
        }
        for (int s = 0; s <= 7; s++) {
            if (s < 7) {
                if (s >= c.size() || (opened >> s & 1) == 1) continue;
                if (lives[s] != NONE && lives[s] <= year) continue;
            }
            row[year] = s;
            plans(c, n, row, year + 1, s == 7 ? opened : opened | 1 << s, sum + (s == 7 ? 0 : witIn(c, s, year)), best, lives);
        }
    }

    int plan(int cellar, int n, int k) {
        Cellar c = get(cellars, cellar);
        if (c == null || n < 0 || n > 10 || k < NONE || k >= n) return NONE;
        int[] best = new int[n + 1];
        best[0] = -1;
        int[] lives = new int[c.size()];
        for (int s = 0; s < c.size(); s++) lives[s] = lifeOf(c, s);
        plans(c, n, new int[n], 0, 0, 0, best, lives);
        return best[k + 1];
    }

    static void talks(Cellar c, List<Integer> row, List<Integer> best) {
        if (row.size() > best.size()) {
            best.clear();
            best.addAll(row);
        }
        for (int s = 0; s < c.size(); s++) {
            if (row.contains(s) || !row.isEmpty() && !c.answers[s][row.get(row.size() - 1)]) continue;
            row.add(s);
            talks(c, row, best);
            row.remove(row.size() - 1);
        }
    }

    int talk(int cellar, int k) {
        Cellar c = get(cellars, cellar);
        if (c == null) return NONE;
        List<Integer> best = new ArrayList<>();
        talks(c, new ArrayList<>(), best);
        if (k == NONE) return best.size();
        return k < 0 || k >= best.size() ? NONE : best.get(k);
    }

    int dinner(int cellar, int k) {
        Cellar c = get(cellars, cellar);
        if (c == null) return NONE;
        int most = -1;
        List<Integer> best = null;
        for (List<Integer> row : rows(numbers(c))) {
            int sum = 0;
            for (int i = 0; i < row.size(); i++) {
                sum += c.sayings.get(row.get(i)).wit;
                if (i > 0 && c.answers[row.get(i)][row.get(i - 1)]) sum += c.sayings.get(row.get(i)).wit;
            }
            if (sum > most || sum == most && isLess(row, best)) {
                most = sum;
                best = row;
            }
        }
        if (k == NONE) return most;
        return k < 0 || k >= best.size() ? NONE : best.get(k);
    }

    int wires(int cellar, int n, boolean which) {
        Cellar c = get(cellars, cellar);
        if (c == null || n < 0 || n > 20) return NONE;
        int best = NONE;
        for (int bits = 0; bits < 1 << c.size(); bits++) {
            Course course = new Course(c);
            for (int s = 0; s < c.size(); s++) if ((bits >> s & 1) == 1) course.perform("wire", s, NONE);
            for (int y = 0; y < n; y++) course.perform("year", NONE, NONE);
            if (course.bursts > 0) continue;
            if (best == NONE || Integer.bitCount(bits) < Integer.bitCount(best)) best = bits;
        }
        return best == NONE ? NONE : which ? best : Integer.bitCount(best);
    }

    /** How much more the one whose turn it is has in the end, and what it opens. */
    static int[] duelOf(Cellar c, int left, int opened, int last) {
        if (left == 0) return new int[] {0, NONE};
        int[] best = null;
        for (int s = 0; s <= 7; s++) {
            if (s < 7 && (s >= c.size() || (opened >> s & 1) == 1)) continue;
            int value;
            if (s == 7) {
                value = -duelOf(c, left - 1, opened, last)[0];
            } else {
                int wit = c.sayings.get(s).wit;
                if (last != NONE && c.answers[s][last]) wit += wit;
                value = wit - duelOf(c, left - 1, opened | 1 << s, s)[0];
            }
            if (best == null || value > best[0]) best = new int[] {value, s};
        }
        return best;
    }

    int duel(int cellar, int n, boolean first) {
        Cellar c = get(cellars, cellar);
        if (c == null || n < 0 || n > 5) return -999;
        return duelOf(c, n, 0, NONE)[first ? 1 : 0];
    }

    /** By every outcome of every cork in every year, as outcomes of ten each. */
    long hold(int cellar, int p, int y, int n, boolean under) {
        Cellar c = get(cellars, cellar);
        if (c == null || p < 0 || p > 10 || y < 0 || y > 2 || n < 0 || n > 7) return NONE;
        int corks = c.size() * y;
        BigInteger sum = BigInteger.ZERO;
        for (int bits = 0; bits < 1 << corks; bits++) {
            int held = 0;
            for (int s = 0; s < c.size(); s++) {
                boolean all = true;
                for (int i = 0; i < y; i++) all &= (bits >> (s * y + i) & 1) == 1;
                if (all) held++;
            }
            if (held >= n) {
                int good = Integer.bitCount(bits);
                sum = sum.add(BigInteger.valueOf(p).pow(good).multiply(BigInteger.valueOf(10 - p).pow(corks - good)));
            }
        }
        return fraction(sum, BigInteger.TEN.pow(corks), under);
    }

    static long fraction(BigInteger some, BigInteger of, boolean under) {
        BigInteger shared = some.gcd(of);
        return (under ? of : some).divide(shared).longValueExact();
    }

    // ---- laws

    static int[] burstsBy(Cellar told, int law) {
        Cellar c = told.copy();
        c.reach = law / 10;
        c.shock = law % 10;
        Course course = new Course(c);
        for (int y = 0; y < 50; y++) course.perform("year", NONE, NONE);
        return course.in;
    }

    List<Integer> fitting(int cellar, int log) {
        Cellar c = get(cellars, cellar);
        List<Line> facts = get(logs, log);
        if (c == null || facts == null) return null;
        List<Integer> all = new ArrayList<>();
        for (int law = 0; law < 100; law++) {
            int[] in = burstsBy(c, law);
            if (facts.stream().allMatch(l -> in[l.numbers.get(0)] == l.numbers.get(1))) all.add(law);
        }
        return all;
    }

    int fits(int cellar, int log, int what) {
        List<Integer> all = fitting(cellar, log);
        if (all == null) return -2;
        if (what == 0) return all.size();
        if (what == 1) return all.stream().map(l -> l / 10).distinct().count() == 1 ? all.get(0) / 10 : NONE;
        if (what == 2) return all.stream().map(l -> l % 10).distinct().count() == 1 ? all.get(0) % 10 : NONE;
        if (what == 3) return ask(cellars.get(cellar), all);
        return what >= 10 && what - 10 < all.size() ? all.get(what - 10) : -2;
    }

    static int ask(Cellar c, List<Integer> all) {
        if (all.isEmpty()) return NONE;
        int best = NONE, least = 1000;
        for (int y = 1; y <= 20; y++) {
            Map<Integer, Integer> by = new HashMap<>();
            for (int law : all) by.merge(burstsBy(c, law)[y], 1, Integer::sum);
            int most = by.values().stream().max(Integer::compare).get();
            if (most < least) {
                least = most;
                best = y;
            }
        }
        return best;
    }

    int odds(int cellar, int log, int reach, boolean under) {
        List<Integer> all = fitting(cellar, log);
        if (all == null || all.isEmpty() || reach < 0 || reach > 9) return NONE;
        long some = all.stream().filter(l -> l / 10 == reach).count();
        return (int) fraction(BigInteger.valueOf(some), BigInteger.valueOf(all.size()), under);
    }

    int shock(int cellar, int log, boolean greatest) {
        List<Integer> all = fitting(cellar, log);
        if (all == null || all.isEmpty()) return NONE;
        var shocks = all.stream().mapToInt(l -> l % 10);
        return greatest ? shocks.max().getAsInt() : shocks.min().getAsInt();
    }

    // ---- what it shows

    int wit(int cellar, int what) {
        Cellar c = get(cellars, cellar);
        if (c == null) return -2;
        return switch (what) {
            case 0 -> leastOfMost(c, s -> c.sayings.get(s).wit);
            case 1 -> sumIn(c, 0);
            case 2 -> leastOfMost(c, s -> c.sayings.get(s).fizz - c.sayings.get(s).cork);
            case 3 -> leastOfMost(c, s -> witOf(c, trainOf(c, s)));
            case 4 -> numbers(c).stream().mapToInt(s -> witOf(c, trainOf(c, s))).max().orElse(0);
            case 5 -> close(c);
            case 6 -> close(c) == NONE ? 0 : gap(c, close(c) / 10, close(c) % 10);
            case 7 -> components(c).size();
            case 8 -> components(c).stream().mapToInt(List::size).max().orElse(0);
            case 9 -> Integer.bitCount(cut(c));
            case 10 -> cut(c);
            case 11 -> good(c);
            case 12 -> mute(c);
            case 13 -> ring(c);
            case 14 -> calm(c)[0];
            case 15 -> calm(c)[1];
            case 16 -> pair(c);
            case 17 -> leastOfMost(c, s -> lifeOf(c, s) == NONE ? Integer.MIN_VALUE : -lifeOf(c, s));
            case 18 -> numbers(c).stream().filter(s -> lifeOf(c, s) == NONE).mapToInt(s -> 1 << s).sum();
            default -> -2;
        };
    }

    interface Value { int of(int s); }

    static int leastOfMost(Cellar c, Value v) {
        int best = NONE;
        for (int s = 0; s < c.size(); s++) {
            if (v.of(s) != Integer.MIN_VALUE && (best == NONE || v.of(s) > v.of(best))) best = s;
        }
        return best;
    }

    static int sumIn(Cellar c, int year) {
        return numbers(c).stream().mapToInt(s -> witIn(c, s, year)).sum();
    }

    static int witOf(Cellar c, int bits) {
        return numbers(c).stream().filter(s -> (bits >> s & 1) == 1).mapToInt(s -> c.sayings.get(s).wit).sum();
    }

    static int gap(Cellar c, int a, int b) {
        return Math.abs(c.sayings.get(a).place - c.sayings.get(b).place);
    }

    static int close(Cellar c) {
        int best = NONE;
        for (int a = 0; a < c.size(); a++) {
            for (int b = a + 1; b < c.size(); b++) {
                if (best == NONE || gap(c, a, b) < gap(c, best / 10, best % 10)) best = 10 * a + b;
            }
        }
        return best;
    }

    static List<List<Integer>> components(Cellar c) {
        List<List<Integer>> all = new ArrayList<>();
        for (int s : numbers(c)) {
            List<Integer> joined = new ArrayList<>(List.of(s));
            for (List<Integer> one : new ArrayList<>(all)) {
                if (one.stream().anyMatch(t -> gap(c, s, t) <= c.reach)) {
                    joined.addAll(one);
                    all.remove(one);
                }
            }
            all.add(joined);
        }
        return all;
    }

    static int cut(Cellar c) {
        int best = NONE;
        for (int away = 0; away < 1 << c.size(); away++) {
            Cellar rest = c.copy();
            for (int s = c.size() - 1; s >= 0; s--) if ((away >> s & 1) == 1) rest.sayings.remove(s);
            if (greatest(rest) > 1) continue;
            if (best == NONE || Integer.bitCount(away) < Integer.bitCount(best)) best = away;
        }
        return best;
    }

    static int good(Cellar c) {
        for (int y = 0; y <= 50; y++) if (sumIn(c, y) < sumIn(c, 0) / 2.0) return y;
        return NONE;
    }

    static int mute(Cellar c) {
        int bits = 0;
        for (int s = 0; s < c.size(); s++) {
            boolean any = false;
            for (int t = 0; t < 7; t++) any |= c.answers[s][t] || c.answers[t][s];
            if (!any) bits |= 1 << s;
        }
        return bits;
    }

    static int ring(Cellar c) {
        int best = NONE;
        for (int s : numbers(c)) {
            int length = ringFrom(c, s, s, 1 << s, 1);
            if (length != NONE && (best == NONE || length < best)) best = length;
        }
        return best;
    }

    static int ringFrom(Cellar c, int first, int at, int seen, int length) {
        int best = NONE;
        if (length >= 2 && c.answers[at][first]) best = length;
        for (int t = 0; t < c.size(); t++) {
            if (!c.answers[at][t] || (seen >> t & 1) == 1) continue;
            int more = ringFrom(c, first, t, seen | 1 << t, length + 1);
            if (more != NONE && (best == NONE || more < best)) best = more;
        }
        return best;
    }

    static int[] calm(Cellar c) {
        int[] in = burstsBy(c, c.reach * 10 + c.shock);
        int[] best = {0, NONE};
        for (int from = 1; from <= 50; from++) {
            for (int to = from; to <= 50 && in[to] == 0; to++) {
                if (to - from + 1 > best[0]) best = new int[] {to - from + 1, from};
            }
        }
        return best;
    }

    static int pair(Cellar told) {
        int best = NONE, least = greatest(told);
        for (int a = 0; a < told.size(); a++) {
            for (int b = a + 1; b < told.size(); b++) {
                Cellar c = told.copy();
                int place = c.sayings.get(a).place;
                c.sayings.get(a).place = c.sayings.get(b).place;
                c.sayings.get(b).place = place;
                if (greatest(c) < least) {
                    least = greatest(c);
                    best = 10 * a + b;
                }
            }
        }
        return best;
    }

    int flat(int cellar, int n) {
        Cellar c = get(cellars, cellar);
        if (c == null || n < 0 || n > 50) return NONE;
        return (int) numbers(c).stream().filter(s -> witIn(c, s, n) == 0).count();
    }

    int next(int cellar, int n) {
        Cellar c = get(cellars, cellar);
        if (c == null || n < 1 || n > 50) return NONE;
        return burstsBy(c, c.reach * 10 + c.shock)[n];
    }

    int half(int cellar, int k, boolean which) {
        Cellar c = get(cellars, cellar);
        if (c == null || k < 0 || k > 7) return NONE;
        int best = NONE;
        for (int bits = 0; bits < 1 << c.size(); bits++) {
            boolean may = Integer.bitCount(bits) == k;
            for (int s = 0; s < 7; s++) {
                for (int t = 0; t < 7; t++) {
                    if ((bits >> s & 1) == 1 && (bits >> t & 1) == 1 && c.answers[s][t]) may = false;
                }
            }
            if (may && (best == NONE || witOf(c, bits) > witOf(c, best))) best = bits;
        }
        return best == NONE ? NONE : which ? best : witOf(c, best);
    }

    int count(int sort) {
        return sort(sort) == null ? -2 : sort(sort).size();
    }

    void become(Model other) {
        tape = other.tape.clone();
        fault = other.fault;
        faultPlace = other.faultPlace;
        // what is told is never changed in its place, so the lists alone are copied
        cellars = new ArrayList<>(other.cellars);
        years = new ArrayList<>(other.years);
        logs = new ArrayList<>(other.logs);
    }

    boolean image(int k) {
        if (k < 0 || k > 2) return false;
        images[k] = new Model();
        images[k].become(this);
        return true;
    }

    boolean again(int k) {
        if (k < 0 || k > 2 || images[k] == null) return false;
        become(images[k]);
        return true;
    }
}
