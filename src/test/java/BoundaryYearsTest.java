/** The boundary cases of years and deeds: Terms 2, DRAWN, NEXT and what is behind all deeds; promises 8, 9, 21, 24, 26. */
public final class BoundaryYearsTest {
    private static final int NONE = CorkedTalk.NONE;
    private static final int MIN = Integer.MIN_VALUE;
    private static final int MAX = Integer.MAX_VALUE;
    private static final int[] NO_NUMBERS = {-1, 1, 2, MIN, MAX};
    private static final Teller T = new Teller();

    public static void main(String[] args) {
        aboveTheCork();
        reach();
        shock();
        oneBehindTheOther();
        yearZero();
        open();
        wire();
        move();
        taint();
        year();
        noSuchSaying();
        notAsSaid();
        endOfDeeds();
        till();
        state();
        drawnOnce();
        drawnIfItMay();
        drawnWithoutSayings();
        drawnNumbers();
        next();
        afterFirstAndMost();
        afterFond();
        afterWasteSpoiltMoves();
        after();
        T.finish("BoundaryYearsTest");
    }

    private static CorkedTalk told(String cellar, String years) {
        return Teller.told(cellar, years, null);
    }

    /** Of the state behind all deeds of a text of years, every one of which can be. */
    private static int behind(String cellar, String years, int what) {
        CorkedTalk x = told(cellar, years);
        return x.state(0, 0, x.deed(0, NONE, 0), what);
    }

    private static void due(String cellar, String years, int what, int want) {
        T.due("state, what " + what + ", of " + cellar + " behind " + years, want, behind(cellar, years, what));
    }

    // ---- Terms 2

    private static void aboveTheCork() {
        T.says("A SAYING BURSTS, if it is not GONE, and its FIZZ is above its CORK");
        for (int fizz = 0; fizz <= 30; fizz++) {
            due("saying 1 0 " + fizz + " 0 15 0;", "year;", 2, fizz > 15 ? 1 : 0);
            due("saying 1 0 " + fizz + " 0 1 0;", "year;", 3, fizz > 1 ? 1 : 0);
            due("saying 1 0 " + fizz + " 0 40 0;", "year;", 2, 0);
            due("saying 1 0 " + fizz + " 5 30 0;", "year;", 2, fizz > 25 ? 1 : 0);
        }
        due("saying 1 0 30 0 1 0;", "year;year;year;", 2, 1);
    }

    private static void reach() {
        T.says("of all others that are not GONE and no more than REACH PLACES from its own the FIZZ is more by SHOCK");
        for (int reach = 0; reach <= 9; reach++) {
            for (int from : new int[] {0, 10, 20}) {
                for (int to = 0; to <= 20; to++) {
                    String cellar = "shock 1;reach " + reach + ";saying 0 0 30 0 1 " + from + ";saying 0 0 0 0 40 " + to + ";";
                    T.due(cellar, Math.abs(from - to) <= reach ? 1 : 0, behind(cellar, "year;", 21));
                }
            }
        }
    }

    private static void shock() {
        T.says("the FIZZ is more by SHOCK");
        for (int shock = 0; shock <= 9; shock++) {
            String cellar = "shock " + shock + ";saying 0 0 2 0 1 5;saying 0 0 0 0 8 5;saying 0 0 2 0 1 5;";
            // 0 bursts, then 2, which has one shock by then, then 1, if two shocks are above 8; with a shock of 9 1 goes ahead of 2
            due(cellar, "year;", 20, 2);
            due(cellar, "year;", 21, shock == 9 ? 9 : 2 * shock);
            due(cellar, "year;", 22, shock == 9 ? 20 : 2 + shock);
            due(cellar, "year;", 3, shock > 4 ? 7 : 5);
        }
    }

    private static String chain(int first) {
        StringBuilder cellar = new StringBuilder("shock 1;reach 1;");
        for (int s = 0; s < 7; s++) {
            cellar.append("saying 1 0 ").append(s == first ? 6 : 5).append(" 0 5 ").append(s).append(";");
        }
        return cellar.toString();
    }

    private static void oneBehindTheOther() {
        T.says("Whatever BURSTS so, BURSTS at once, one behind the other, of several the least number first, until nothing does.");
        for (int first = 0; first < 7; first++) {
            due(chain(first), "year;", 2, 7);
            due(chain(first), "year;", 3, 127);
            due(chain(first), "year;", 0, 1);
        }
        String same = "shock 9;reach 0;" + "saying 1 0 2 0 1 4;".repeat(7);
        for (int s = 0; s < 7; s++) {
            // as many burst ahead of it as there are lesser ones
            due(same, "year;", 20 + s, 2 + 9 * s);
        }
        // 3 alone is above its cork: then 1 (the least of two that are), then 0 by both, then 2
        String back = "shock 2;reach 9;saying 0 0 0 0 3 0;saying 0 0 4 0 5 0;saying 0 0 4 0 5 0;saying 0 0 9 0 5 0;";
        due(back, "year;", 23, 9);
        due(back, "year;", 21, 6);
        due(back, "year;", 20, 4);
        due(back, "year;", 22, 10);
    }

    private static void yearZero() {
        T.says("YEARS of a CELLAR begin in year 0, nothing being GONE, TAINTED, WIRED.");
        CorkedTalk x = told("saying 30 5 30 5 1 20;saying 0 0 0 0 40 0;", "");
        for (int what = 0; what < 6; what++) {
            T.due("state behind nothing, what " + what, 0, x.state(0, 0, 0, what));
        }
        int[] told = {30, 0, 30, 0, 1, 40, 20, 0};
        for (int i = 0; i < 8; i++) {
            T.due("as told", told[i], x.state(0, 0, 0, 10 * (i / 2 + 1) + i % 2));
        }
        T.says("(What BURSTS at first does so in the first year.)");
        due("saying 9 0 30 0 1 0;", "", 2, 0);
        due("saying 9 0 30 0 1 0;", "taint 0;move 0 1;", 2, 0);
        due("saying 9 0 30 0 1 0;", "open 0;year;", 2, 0);
        due("saying 9 0 30 0 1 0;", "year;", 2, 1);
        T.due("its year", 1, told("saying 9 0 30 0 1 0;", "taint 0;year;year;").after(0, 0, 0));
    }

    private static void open() {
        T.says("open: a SAYING that is not GONE is GONE then; HEARD is more by its WIT, if it is not TAINTED.");
        String two = "reach 9;shock 9;saying 30 5 30 5 1 0;saying 7 0 1 0 1 0;";
        due(two, "open 0;", 1, 30);
        due(two, "open 0;", 3, 1);
        due(two, "open 0;", 2, 0);
        due(two, "open 0;open 1;", 1, 37);
        due(two, "taint 0;open 0;", 1, 0);
        due(two, "taint 0;open 0;", 3, 1);
        due(two, "taint 0;open 0;open 1;", 1, 7);
        // what is opened does not burst, so nothing is shocked
        due(two, "open 0;year;", 21, 1);
        due(two, "open 0;year;", 2, 0);
        due("saying 4 5 0 0 9 0;", "year;open 0;", 1, 0);
        due("saying 30 0 0 0 9 0;".repeat(7), "open 0;open 1;open 2;open 3;open 4;open 5;open 6;", 1, 210);
    }

    private static void wire() {
        T.says("wire: a SAYING that is not GONE, nor WIRED, is WIRED: its CORK is 5 more.");
        due("saying 0 0 0 0 40 0;", "wire 0;", 30, 45);
        due("saying 0 0 0 0 1 0;", "wire 0;", 30, 6);
        due("saying 0 0 0 0 1 0;", "wire 0;", 4, 1);
        due("saying 0 0 6 0 1 0;", "wire 0;year;year;", 2, 0);
        due("saying 0 0 7 0 1 0;", "wire 0;year;", 2, 1);
        due("saying 0 0 30 5 30 0;", "wire 0;year;", 2, 0);
        due("saying 0 0 30 5 30 0;", "wire 0;year;year;", 2, 1);
        due("saying 0 0 30 5 30 0;", "wire 0;year;year;", 4, 1);
        due("saying 0 0 0 0 1 0;".repeat(7), "wire 6;", 4, 64);
        due("saying 0 0 0 0 1 0;".repeat(7), "wire 6;", 35, 1);
        due("saying 0 0 0 0 1 0;", "wire 0;open 0;", 30, 6);
    }

    private static void move() {
        T.says("move: a SAYING that is not GONE is at another PLACE than it was.");
        for (int from = 0; from <= 20; from++) {
            for (int to = 0; to <= 20; to++) {
                CorkedTalk x = told("saying 0 0 0 0 1 " + from + ";", "move 0 " + to + ";");
                T.due("move from " + from + " to " + to, from == to ? 0 : 1, x.till(0, 0));
                T.due("move from " + from + " to " + to, from == to ? NONE : to, x.state(0, 0, 1, 40));
                T.due("the cellar is as it was told", from, x.cellar(0, 60));
            }
        }
        due("saying 0 0 0 0 1 20;", "move 0 0;move 0 20;", 40, 20);
        String two = "shock 9;reach 1;saying 0 0 9 0 1 0;saying 0 0 0 0 1 1;";
        due(two, "year;", 2, 2);
        due(two, "move 1 2;year;", 2, 1);
        due(two, "move 0 2;move 1 3;year;", 2, 2);
    }

    private static void taint() {
        T.says("taint: a SAYING that is not GONE nor TAINTED is TAINTED.");
        due("saying 3 0 0 0 9 0;".repeat(7), "taint 0;taint 6;", 5, 65);
        due("saying 3 0 9 0 1 0;", "taint 0;year;", 2, 1);
        due("saying 3 0 9 0 1 0;", "taint 0;year;", 5, 1);
        due("saying 3 1 0 1 9 0;", "taint 0;year;", 10, 2);
        due("saying 3 1 0 1 9 0;", "taint 0;wire 0;move 0 9;open 0;", 5, 1);
    }

    private static void year() {
        T.says("year (up to 50): of all that are not GONE WIT is less by FADE, 0 at least, FIZZ more by RISE; it is the next year");
        for (int wit = 0; wit <= 30; wit++) {
            for (int fade = 0; fade <= 5; fade++) {
                due("saying " + wit + " " + fade + " 0 0 1 0;", "year;", 10, wit < fade ? 0 : wit - fade);
            }
        }
        due("saying 30 5 0 5 40 0;", "year;".repeat(6), 10, 0);
        due("saying 30 5 0 5 40 0;", "year;".repeat(7), 10, 0);
        due("saying 30 5 0 5 40 0;", "year;".repeat(8), 20, 40);
        due("saying 30 5 0 5 40 0;", "year;".repeat(8), 2, 0);
        due("saying 30 5 0 5 40 0;", "year;".repeat(9), 2, 1);
        // as it was when it was gone, by opening or by bursting
        due("saying 30 5 0 5 40 0;", "open 0;year;year;", 10, 30);
        due("saying 30 5 0 5 40 0;", "open 0;year;year;", 20, 0);
        due("saying 30 5 0 5 4 0;", "year;year;", 10, 25);
        due("saying 30 5 0 5 4 0;", "year;year;", 20, 5);
        due("", "year;".repeat(40), 0, 40);
        T.due("as many years as deeds may be", 40, told("saying 30 5 0 5 4 0;", "year;".repeat(40)).till(0, 0));
    }

    private static void noSuchSaying() {
        T.says("A DEED can't be, if there is no such SAYING");
        String[] deeds = {"open %d;", "wire %d;", "taint %d;", "move %d 20;"};
        for (int n = 0; n <= 7; n++) {
            for (int s = 0; s < 7; s++) {
                for (String deed : deeds) {
                    CorkedTalk x = told("saying 0 0 0 0 1 0;".repeat(n), String.format(deed, s));
                    T.due(deed + " of " + s + " in " + n, s < n ? 1 : 0, x.till(0, 0));
                }
            }
        }
    }

    private static void notAsSaid() {
        T.says("or it is not as said");
        String[] gone = {"open 0;", "year;"};
        String[] deeds = {"open 0;", "wire 0;", "taint 0;", "move 0 20;"};
        for (String first : gone) {
            for (String second : deeds) {
                CorkedTalk x = told("saying 0 0 9 0 1 0;", first + second + "year;");
                T.due("till of " + first + second, 1, x.till(0, 0));
                T.due("state behind " + first + second, NONE, x.state(0, 0, 2, 0));
            }
        }
        for (int first = 1; first < 4; first++) {
            for (int second = 0; second < 4; second++) {
                T.due("till of " + deeds[first] + deeds[second], first == second ? 1 : 2,
                    told("saying 0 0 9 0 1 0;", deeds[first] + deeds[second]).till(0, 0));
            }
        }
    }

    private static void endOfDeeds() {
        T.says("END: the first DEED that can't be, else how many there are.");
        String one = "saying 0 0 0 0 1 0;";
        for (int bad = 0; bad <= 40; bad++) {
            String years = bad == 40 ? "year;".repeat(40) : "year;".repeat(bad) + "open 1;" + "year;".repeat(39 - bad);
            T.due("till, deed " + bad, bad, told(one, years).till(0, 0));
        }
        T.due("the first of two", 1, told(one, "year;open 1;open 1;").till(0, 0));
        T.due("what could be behind it does not count", 0, told(one, "open 1;open 0;").till(0, 0));
        T.says("A STATE is behind the first n DEEDS, n up to END.");
        CorkedTalk x = told(one, "year;".repeat(39) + "open 1;");
        for (int n = 0; n <= 39; n++) {
            T.due("state(0, 0, " + n + ", 0)", n, x.state(0, 0, n, 0));
        }
        for (int n : new int[] {40, 41, 100, -1, -2, MIN, MAX}) {
            T.due("state(0, 0, " + n + ", 0)", NONE, x.state(0, 0, n, 0));
        }
        T.due("behind all forty", 40, told(one, "year;".repeat(40)).state(0, 0, 40, 0));
        T.due("behind one more than all", NONE, told(one, "year;".repeat(40)).state(0, 0, 41, 0));
        T.due("behind one more than all", NONE, told(one, "year;").state(0, 0, 2, 0));
    }

    // ---- promises 8 and 9

    private static void till() {
        T.says("NONE: there is none such (of either).");
        CorkedTalk x = told("saying 0 0 0 0 1 0;", "year;");
        for (int no : NO_NUMBERS) {
            T.due("till(" + no + ", 0)", NONE, x.till(no, 0));
            T.due("till(0, " + no + ")", NONE, x.till(0, no));
            T.due("till(" + no + ", " + no + ")", NONE, x.till(no, no));
        }
        T.due("till(0, 0)", 1, x.till(0, 0));
        Teller.tell(x, 0, NONE, "");
        Teller.tell(x, 1, NONE, "year;year;open 0;");
        T.due("till(0, 1)", 3, x.till(0, 1));
        T.due("till(1, 1)", 2, x.till(1, 1));
        T.due("till(1, 0)", 1, x.till(1, 0));
    }

    private static void state() {
        T.says("NONE: there is no such STATE, or for another what.");
        StringBuilder cellar = new StringBuilder();
        for (int s = 0; s < 7; s++) {
            cellar.append("saying ").append(10 + s).append(" 0 ").append(s).append(" 0 ").append(20 + s).append(" ").append(s).append(";");
        }
        CorkedTalk x = told(cellar.toString(), "");
        for (int what = -20; what < 100; what++) {
            int s = Math.floorMod(what, 10);
            int[] row = {0, 10 + s, s, 20 + s, s};
            boolean is = what >= 10 && what < 50 && s < 7;
            int want = what >= 0 && what < 6 ? 0 : is ? row[what / 10] : NONE;
            T.due("state(0, 0, 0, " + what + ")", want, x.state(0, 0, 0, what));
            T.due("drawn(0, 0, 0, " + what + ")", want, x.drawn(0, 0, 0, what));
        }
        for (int what : new int[] {MIN, MAX, -10, 60, 70}) {
            T.due("state(0, 0, 0, " + what + ")", NONE, x.state(0, 0, 0, what));
        }
        for (int no : NO_NUMBERS) {
            T.due("state(" + no + ", 0, 0, 0)", NONE, x.state(no, 0, 0, 0));
            T.due("state(0, " + no + ", 0, 0)", NONE, x.state(0, no, 0, 0));
        }
        CorkedTalk empty = told("", "");
        for (int what = 6; what < 60; what++) {
            T.due("no sayings: state(0, 0, 0, " + what + ")", NONE, empty.state(0, 0, 0, what));
        }
    }

    // ---- promise 21

    /** The first k numbers that a seed gives, ahead of the remainder. */
    private static int[] numbers(int seed, int k) {
        int[] all = new int[k];
        long x = seed & 0xffffffffL;
        for (int i = 0; i < k; i++) {
            x = (x * 1103515245L + 12345L) & 0xffffffffL;
            all[i] = (int) (x >> 16);
        }
        return all;
    }

    private static void drawnOnce() {
        T.says("0 to 3: year; 4, 5: open, 6: wire, 7: taint, 8, 9: move, a SAYING, a number below SAYINGS, for move then a PLACE, below 21");
        int[] edges = {0, 1, -1, 2, MIN, MAX, MIN + 1, MAX - 1, 65535, 65536, -65536};
        for (int i = 0; i < 300; i++) {
            int seed = i < edges.length ? edges[i] : i * 40503 * (i % 2 == 0 ? 1 : -7);
            int n = 1 + i % 7;
            int[] v = numbers(seed, 3);
            int kind = v[0] % 10;
            int s = v[1] % n;
            String call = "drawn, seed " + seed + " of " + n + ", kind " + kind;
            CorkedTalk x = Teller.cellar("saying 5 1 0 1 9 3;".repeat(n));
            T.due(call, kind <= 3 ? 1 : 0, x.drawn(0, seed, 1, 0));
            T.due(call, kind == 4 || kind == 5 ? 5 : 0, x.drawn(0, seed, 1, 1));
            T.due(call, 0, x.drawn(0, seed, 1, 2));
            T.due(call, kind == 4 || kind == 5 ? 1 << s : 0, x.drawn(0, seed, 1, 3));
            T.due(call, kind == 6 ? 1 << s : 0, x.drawn(0, seed, 1, 4));
            T.due(call, kind == 7 ? 1 << s : 0, x.drawn(0, seed, 1, 5));
            for (int t = 0; t < n; t++) {
                T.due(call, kind <= 3 ? 4 : 5, x.drawn(0, seed, 1, 10 + t));
                T.due(call, kind <= 3 ? 1 : 0, x.drawn(0, seed, 1, 20 + t));
                T.due(call, kind == 6 && t == s ? 14 : 9, x.drawn(0, seed, 1, 30 + t));
                T.due(call, kind >= 8 && t == s ? v[2] % 21 : 3, x.drawn(0, seed, 1, 40 + t));
            }
        }
    }

    /** A seed whose first two draws of one saying are of these kinds. */
    private static int seedOf(int first, int second) {
        for (int seed = 0; seed < 100000; seed++) {
            int[] v = numbers(seed, 4);
            if (v[0] % 10 == first && v[2] % 10 == second) {
                return seed;
            }
        }
        throw new IllegalStateException("no such seed");
    }

    private static void drawnIfItMay() {
        T.says("each, if it may");
        CorkedTalk x = Teller.cellar("saying 7 0 9 0 5 0;");
        T.due("opened twice: heard", 7, x.drawn(0, seedOf(4, 5), 2, 1));
        T.due("wired twice: cork", 10, x.drawn(0, seedOf(6, 6), 2, 30));
        T.due("tainted twice", 1, x.drawn(0, seedOf(7, 7), 2, 5));
        T.due("tainted, then opened: heard", 0, x.drawn(0, seedOf(7, 4), 2, 1));
        T.due("tainted, then opened: gone", 1, x.drawn(0, seedOf(7, 4), 2, 3));
        T.due("opened, then wired", 0, x.drawn(0, seedOf(5, 6), 2, 4));
        T.due("opened, then tainted", 0, x.drawn(0, seedOf(5, 7), 2, 5));
        T.due("opened, then moved", 0, x.drawn(0, seedOf(5, 8), 2, 40));
        T.due("wired, then a year: it holds", 0, x.drawn(0, seedOf(6, 3), 2, 2));
        T.due("tainted, then a year: it bursts", 1, x.drawn(0, seedOf(7, 0), 2, 2));
        // most years that any seed gives; with a saying more numbers are drawn
        T.due("48 years", 48, Teller.cellar("saying 0 0 0 0 1 0;").drawn(0, -946493535, 60, 0));
        T.due("48 years", 48, Teller.cellar("saying 0 0 0 0 1 0;".repeat(7)).drawn(0, -323185656, 60, 0));
    }

    private static void drawnWithoutSayings() {
        T.says("(Without SAYINGS 4 to 9 draw no more, nothing is done.)");
        CorkedTalk x = Teller.cellar("");
        for (int seed = -40; seed < 40; seed++) {
            int years = 0;
            for (int v : numbers(seed, 60)) {
                years += v % 10 <= 3 ? 1 : 0;
            }
            T.due("years by seed " + seed, years, x.drawn(0, seed, 60, 0));
        }
        for (int what = 1; what < 6; what++) {
            T.due("nothing is done", 0, x.drawn(0, 7, 60, what));
        }
        T.due("47 years", 47, x.drawn(0, -1100472123, 60, 0));
    }

    private static void drawnNumbers() {
        T.says("NONE: there is none such, another n, or for another what.");
        CorkedTalk x = Teller.cellar("saying 0 0 0 0 1 0;");
        int years = 0;
        int at = 0;
        int[] v = numbers(3, 200);
        for (int n = 0; n <= 60; n++) {
            T.due("drawn(0, 3, " + n + ", 0)", years, x.drawn(0, 3, n, 0));
            int kind = v[at] % 10;
            years += kind <= 3 ? 1 : 0;
            at += kind <= 3 ? 1 : kind <= 7 ? 2 : 3;
        }
        for (int n : new int[] {-1, -2, 61, 62, MIN, MAX}) {
            T.due("drawn(0, 3, " + n + ", 0)", NONE, x.drawn(0, 3, n, 0));
        }
        for (int no : NO_NUMBERS) {
            T.due("drawn(" + no + ", 3, 1, 0)", NONE, x.drawn(no, 3, 1, 0));
        }
        for (int what : new int[] {-1, 6, 9, 11, 21, 31, 41, 50, MIN, MAX}) {
            T.due("drawn(0, 3, 60, " + what + ")", NONE, x.drawn(0, 3, 60, what));
        }
        T.due("the cellar is as it was told", 1, x.cellar(0, 50));
    }

    // ---- promise 24

    private static void next() {
        T.says("NEXT of n, 1 .. 50: nothing being opened, wired, moved: how many BURST in year n.");
        StringBuilder seven = new StringBuilder("shock 0;");
        for (int s = 0; s < 7; s++) {
            seven.append("saying 0 0 0 5 ").append(4 + 5 * s).append(" 0;");
        }
        CorkedTalk x = told(seven.toString(), "open 0;wire 1;move 2 20;");
        CorkedTalk late = Teller.cellar("saying 0 0 0 1 40 0;");
        CorkedTalk all = Teller.cellar(chain(3));
        CorkedTalk none = Teller.cellar("");
        for (int n = 1; n <= 50; n++) {
            T.due("one a year: next(0, " + n + ")", n <= 7 ? 1 : 0, x.next(0, n));
            T.due("as late as can be: next(0, " + n + ")", n == 41 ? 1 : 0, late.next(0, n));
            T.due("all at once: next(0, " + n + ")", n == 1 ? 7 : 0, all.next(0, n));
            T.due("no sayings: next(0, " + n + ")", 0, none.next(0, n));
        }
        T.says("NONE: another n, or there is none such.");
        for (int n : new int[] {0, -1, 51, 52, MIN, MAX}) {
            T.due("next(0, " + n + ")", NONE, x.next(0, n));
        }
        for (int no : NO_NUMBERS) {
            T.due("next(" + no + ", 1)", NONE, x.next(no, 1));
        }
    }

    // ---- promise 26

    private static int after(String cellar, String years, int what) {
        return told(cellar, years).after(0, 0, what);
    }

    private static void afterFirstAndMost() {
        T.says("FIRST: the year of the first BURST (none)");
        String late = "saying 7 0 1 1 40 0;";
        T.due("in the last year that may be", 40, after(late, "year;".repeat(40), 0));
        T.due("a year less: none", NONE, after(late, "year;".repeat(39), 0));
        T.due("in the first", 1, after("saying 7 0 9 0 1 0;", "year;", 0));
        T.due("no years: none", NONE, after("saying 7 0 9 0 1 0;", "", 0));
        T.due("opened: none", NONE, after("saying 7 0 9 0 1 0;", "open 0;year;", 0));
        T.says("MOST: the year in which most BURST, of several the first (none: none)");
        String five = "shock 0;saying 1 0 0 5 4 0;saying 1 0 0 5 9 0;saying 1 0 0 5 9 0;saying 1 0 0 5 14 0;saying 1 0 0 5 14 0;";
        T.due("two in year 2, two in year 3", 2, after(five, "year;year;year;", 1));
        T.due("one in year 1", 1, after(five, "year;", 1));
        T.due("the first is in year 1", 1, after(five, "year;year;year;", 0));
        T.due("three in year 3", 3, after(five + "saying 1 0 0 5 14 0;", "year;year;year;", 1));
        T.due("in the last year that may be", 40, after(late, "year;".repeat(40), 1));
        T.due("none", NONE, after(late, "year;".repeat(39), 1));
        T.due("none", NONE, after(late, "", 1));
        T.says("Of YEARS in a CELLAR, behind all DEEDS up to END");
        T.due("years behind the end do not come", NONE, after("saying 7 0 9 0 1 0;", "open 1;year;", 0));
        T.due("years behind the end do not come", NONE, after("saying 7 0 9 0 1 0;", "open 1;year;", 1));
    }

    private static void afterFond() {
        T.says("FOND: the SAYING opened that was of most WIT then, TAINTED ones not, of several the least (none)");
        String two = "saying 9 5 0 0 9 0;saying 5 0 0 0 9 0;";
        T.due("nothing opened", NONE, after(two, "year;", 2));
        T.due("most wit", 0, after(two, "open 1;open 0;", 2));
        T.due("most wit then", 1, after(two, "year;open 0;open 1;", 2));
        T.due("most wit then", 0, after(two, "open 0;year;open 1;", 2));
        T.due("tainted ones not", 1, after(two, "taint 0;open 0;open 1;", 2));
        T.due("tainted ones alone", NONE, after(two, "taint 0;open 0;", 2));
        T.due("tainted, but not opened", 1, after(two, "taint 0;open 1;", 2));
        String dull = "saying 0 0 0 0 9 0;".repeat(7);
        T.due("no wit is the most, too", 6, after(dull, "open 6;", 2));
        T.due("of several the least", 5, after(dull, "open 5;open 6;", 2));
        T.due("of several the least", 5, after(dull, "open 6;open 5;", 2));
        T.due("behind the end", 6, after(dull, "open 6;open 6;open 0;", 2));
    }

    private static void afterWasteSpoiltMoves() {
        T.says("WASTE: WIT of all that BURST, as it was then, together");
        T.due("nothing burst", 0, after("saying 9 0 0 0 9 0;", "year;", 3));
        T.due("all burst", 210, after("saying 30 0 9 0 1 0;".repeat(7), "year;", 3));
        T.due("as it was then", 25 + 20, after("shock 0;saying 30 5 0 5 4 0;saying 30 5 0 5 9 0;", "year;year;year;", 3));
        T.due("no wit was left", 0, after("saying 4 5 9 0 1 0;", "year;", 3));
        T.due("tainted ones too", 9, after("saying 9 0 9 0 1 0;", "taint 0;year;", 3));
        T.due("what was opened is not wasted", 0, after("saying 9 0 9 0 1 0;", "open 0;year;", 3));
        T.says("SPOILT: how many TAINTED ones were opened");
        String seven = "saying 1 0 0 0 9 0;".repeat(7);
        StringBuilder all = new StringBuilder();
        for (int s = 0; s < 7; s++) {
            all.append("taint ").append(s).append(";open ").append(s).append(";");
        }
        T.due("all", 7, after(seven, all.toString(), 4));
        T.due("tainted, but not opened", 0, after(seven, "taint 0;open 1;", 4));
        T.due("up to the end", 1, after(seven, "taint 0;open 0;open 0;taint 1;open 1;", 4));
        T.due("burst, not opened", 0, after("saying 9 0 9 0 1 0;", "taint 0;year;", 4));
        T.says("MOVES: how many");
        T.due("none", 0, after(seven, "", 5));
        T.due("forty", 40, after(seven, "move 0 1;move 0 0;".repeat(20), 5));
        T.due("up to the end", 2, after(seven, "move 0 1;move 0 0;move 0 0;move 0 1;", 5));
    }

    private static void after() {
        T.says("Of YEARS in a CELLAR, behind all DEEDS up to END");
        CorkedTalk twice = told("saying 9 0 9 0 1 0;saying 8 0 0 0 1 5;", "move 1 9;taint 1;open 1;year;");
        for (int i = 0; i < 2; i++) {
            int[] due = {1, 1, NONE, 9, 1, 1};
            for (int what = 0; what < 6; what++) {
                T.due("asked once more: after(0, 0, " + what + ")", due[what], twice.after(0, 0, what));
            }
            T.due("asked once more: bursts", 1, twice.state(0, 0, 4, 2));
            T.due("asked once more: till", 4, twice.till(0, 0));
        }
        T.says("-2: there is none such (of either), or for another what.");
        CorkedTalk x = told("saying 0 0 0 0 1 0;", "year;");
        for (int what : new int[] {-1, -2, 6, 7, 10, MIN, MAX}) {
            T.due("after(0, 0, " + what + ")", -2, x.after(0, 0, what));
        }
        for (int no : NO_NUMBERS) {
            T.due("after(" + no + ", 0, 5)", -2, x.after(no, 0, 5));
            T.due("after(0, " + no + ", 5)", -2, x.after(0, no, 5));
        }
    }
}
