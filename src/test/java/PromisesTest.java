/** Each promise by answers that were reckoned by hand: ordinary inputs, the edges that the document names, wrong inputs. */
public final class PromisesTest {
    private static final int NONE = CorkedTalk.NONE;
    private static final int MIN = Integer.MIN_VALUE;
    private static final int MAX = Integer.MAX_VALUE;
    private static final Teller T = new Teller();

    private static final String CELLAR = "shock 3;reach 2;saying 10 1 4 2 7 0;saying 6 0 8 0 9 2;saying 20 5 0 1 5 5;"
        + "saying 3 0 1 0 30 4;answers 1 0;answers 2 1;answers 0 2;";
    /** The first bursts in the first year, whatever is done. */
    private static final String LIVELY = "reach 0;saying 4 0 9 0 5 7;saying 4 0 0 0 2 7;saying 1 1 0 0 40 8;";
    private static final String YEARS = "year;taint 1;move 3 10;wire 2;year;open 2;open 3;year;open 1;";

    public static void main(String[] args) {
        promise1New();
        promise2Feed();
        promise3End();
        promise4Text();
        promise4NoText();
        promise5FaultsOfForm();
        promise5FaultsOfNumbers();
        promise5FaultsOfCounts();
        promise5Fault();
        promise6Cellar();
        promise7Deed();
        promise8Till();
        promise9State();
        promise9Bursts();
        promise10Train();
        promise11Laying();
        promise12Life();
        promise13Plan();
        promise14Talk();
        promise15Dinner();
        promise16Wires();
        promise17Duel();
        promise18Hold();
        promise19Fact();
        promise20Fits();
        promise21Drawn();
        promise22Wit();
        promise23Flat();
        promise24Next();
        promise25Half();
        promise26After();
        promise27Odds();
        promise28Shock();
        promise29Count();
        promise30And31Images();
        emptyCellar();
        T.finish("PromisesTest");
    }

    private static CorkedTalk told() {
        CorkedTalk x = new CorkedTalk();
        T.due("text(0) of CELLAR", 0, Teller.tell(x, 0, NONE, CELLAR));
        T.due("text(0) of LIVELY", 1, Teller.tell(x, 0, NONE, LIVELY));
        T.due("text(1) of YEARS", 0, Teller.tell(x, 1, NONE, YEARS));
        T.due("text(2)", 0, Teller.tell(x, 2, NONE, "heard 2 2;"));
        return x;
    }

    private static CorkedTalk withCellar(String text) {
        CorkedTalk x = new CorkedTalk();
        T.due("text(0) of " + text, 0, Teller.tell(x, 0, NONE, text));
        return x;
    }

    private static void promise1New() {
        T.due("NONE", -1, CorkedTalk.NONE);
        CorkedTalk x = new CorkedTalk();
        for (int sort = 0; sort < 3; sort++) {
            T.due("new: count", 0, x.count(sort));
        }
        T.due("new: fault(0)", 0, x.fault(0));
        T.due("new: fault(1)", NONE, x.fault(1));
        T.due("new: again", false, x.again(0) | x.again(1) | x.again(2));
        T.due("new: end(0)", 0, x.end(0));
        T.due("new: end(1)", NONE, x.end(1));
        T.due("new: cellar", NONE, x.cellar(0, 0));
        T.due("new: deed", -2, x.deed(0, NONE, 0));
        T.due("new: till", NONE, x.till(0, 0));
        T.due("new: state", NONE, x.state(0, 0, 0, 0));
        T.due("new: train", NONE, x.train(0, 0));
        T.due("new: laying", NONE, x.laying(0, NONE));
        T.due("new: life", NONE, x.life(0, 0));
        T.due("new: plan", NONE, x.plan(0, 0, NONE));
        T.due("new: talk", NONE, x.talk(0, NONE));
        T.due("new: dinner", NONE, x.dinner(0, NONE));
        T.due("new: wires", NONE, x.wires(0, 0, false));
        T.due("new: duel", -999, x.duel(0, 0, true));
        T.due("new: hold", NONE, x.hold(0, 0, 0, 0, true));
        T.due("new: fact", -2, x.fact(0, NONE, 0));
        T.due("new: fits", -2, x.fits(0, 0, 0));
        T.due("new: drawn", NONE, x.drawn(0, 1, 0, 0));
        T.due("new: wit", -2, x.wit(0, 1));
        T.due("new: flat", NONE, x.flat(0, 0));
        T.due("new: next", NONE, x.next(0, 1));
        T.due("new: half", NONE, x.half(0, 0, false));
        T.due("new: after", -2, x.after(0, 0, 5));
        T.due("new: odds", NONE, x.odds(0, 0, 0, true));
        T.due("new: shock", NONE, x.shock(0, 0, true));
    }

    private static void promise2Feed() {
        CorkedTalk x = new CorkedTalk();
        // "year;year;year;year;", the highest byte first
        T.due("feed", 20, x.feed(2036687218, 997811553, 1916500325, 1634876281, 1700885051));
        T.due("text of what was fed", 0, x.text(1, NONE));
        T.due("deeds that were fed", 4, x.deed(0, NONE, 0));
        for (int n = 1; n <= 30; n++) {
            T.due("feed " + n, 20 * n, x.feed(538976288, 538976288, 538976288, 538976288, 538976288));
        }
        T.due("feed beyond 600", NONE, x.feed(0, 0, 0, 0, 0));
        T.due("nothing came: end(601)", NONE, x.end(601));
        T.due("nothing came: end(600)", 600, x.end(600));
        T.due("end(581)", 581, x.end(581));
        T.due("feed to 601", NONE, x.feed(0, 0, 0, 0, 0));
        T.due("end(580)", 580, x.end(580));
        T.due("feed to 600", 600, x.feed(538976288, 538976288, 538976288, 538976288, 538976288));
        T.due("blanks are a text", 1, x.text(1, NONE));
        T.due("bytes above 127", 20, x.feed(-1, -1, -1, -1, -1));
        T.due("bytes above 127 are none of a text", NONE, x.text(0, NONE));
        T.due("bytes above 127: fault", 1, x.fault(0));
        T.due("bytes above 127: place", 0, x.fault(1));
    }

    private static void promise3End() {
        CorkedTalk x = new CorkedTalk();
        Teller.tape(x, Teller.bytes("year;year;xx"), 0);
        T.due("end(-1)", NONE, x.end(-1));
        T.due("end(MIN)", NONE, x.end(MIN));
        T.due("end(MAX)", NONE, x.end(MAX));
        T.due("end(13)", NONE, x.end(13));
        T.due("end(12)", 12, x.end(12));
        T.due("end(10)", 10, x.end(10));
        T.due("end(11)", NONE, x.end(11));
        T.due("the first ten alone", 0, x.text(1, NONE));
        T.due("the first ten alone: deeds", 2, x.deed(0, NONE, 0));
        T.due("taken, so empty", NONE, x.end(1));
    }

    private static void promise4Text() {
        CorkedTalk x = new CorkedTalk();
        T.due("empty cellar", 0, x.text(0, NONE));
        T.due("empty years", 0, x.text(1, NONE));
        T.due("empty log", 0, x.text(2, NONE));
        T.due("no blanks needed", 0, Teller.tell(x, 0, 0, "shock7;reach6;"));
        T.due("no blanks needed: shock", 7, x.cellar(0, 0));
        T.due("no blanks needed: reach", 6, x.cellar(0, 1));
        T.due("blanks", 1, Teller.tell(x, 0, NONE, "\n \nshock\n08 ;  shock 4\n;\n"));
        T.due("later ones strike", 4, x.cellar(1, 0));
        T.due("reach at first", 1, x.cellar(1, 1));
        T.due("in place", 1, Teller.tell(x, 0, 1, "reach 9;"));
        T.due("in place: shock at first", 3, x.cellar(1, 0));
        T.due("in place: reach", 9, x.cellar(1, 1));
        T.due("the other is as it was", 7, x.cellar(0, 0));
        T.due("a fault", NONE, Teller.tell(x, 0, 1, "reach 8;shock;"));
        T.due("a fault leaves what was told", 9, x.cellar(1, 1));
        T.due("a fault takes the tape", NONE, x.end(1));
        T.due("years in place", 0, Teller.tell(x, 1, 0, "open 6;"));
        T.due("years in place: deeds", 1, x.deed(0, NONE, 0));
        T.due("log in place", 0, Teller.tell(x, 2, 0, "heard 20 7;"));
        T.due("log in place: facts", 1, x.fact(0, NONE, 0));
        T.due("a further log", 1, Teller.tell(x, 2, NONE, ""));
        T.due("a further log: facts", 0, x.fact(1, NONE, 0));
    }

    private static void promise4NoText() {
        CorkedTalk x = told();
        int[][] wrong = {{0, NONE}, {0, 2}, {0, -2}, {1, 1}, {1, MAX}, {2, 1}, {2, MIN}, {3, NONE}, {3, 0}, {-1, NONE}, {MIN, 0}, {MAX, 0}};
        for (int[] w : wrong) {
            T.due("a fault first", NONE, Teller.tell(x, 0, 0, "x"));
            Teller.tape(x, Teller.bytes("year;"), 0);
            T.due("text(" + w[0] + ", " + w[1] + ")", -2, x.text(w[0], w[1]));
            T.due("no text: fault(0)", 0, x.fault(0));
            T.due("no text: fault(1)", NONE, x.fault(1));
            T.due("no text: the tape is taken all the same", NONE, x.end(1));
            T.due("no text: the tape begins anew", 20, x.feed(0, 0, 0, 0, 0));
        }
        T.due("no text: as many cellars as before", 2, x.count(0));
        T.due("no text: as many years as before", 1, x.count(1));
        T.due("a further one", 1, Teller.tell(x, 1, NONE, "year;"));
        T.due("as many as may be", -2, Teller.tell(x, 1, NONE, "open 0;"));
        T.due("as many as may be: what was told stays", 0, x.deed(1, 0, 0));
    }

    private static void fault(int sort, String text, int fault, int place) {
        CorkedTalk x = new CorkedTalk();
        T.due("text(" + sort + ") of " + text, fault == 0 ? 0 : NONE, Teller.tell(x, sort, NONE, text));
        T.due("fault(0) of " + text, fault, x.fault(0));
        T.due("fault(1) of " + text, place, x.fault(1));
        T.due("count behind " + text, fault == 0 ? 1 : 0, x.count(sort));
    }

    private static void promise5FaultsOfForm() {
        fault(0, "shock 3", 1, 7);
        fault(0, "shock 3  ", 1, 9);
        fault(0, "shock", 1, 5);
        fault(0, "shock ;", 1, 6);
        fault(0, "shock 3 4;", 1, 8);
        fault(0, "shock 123;", 1, 6);
        fault(0, "shock 003;", 1, 6);
        fault(0, "shocks 3;", 1, 0);
        fault(0, "shockz 3;", 1, 0);
        fault(0, "xhock 3;", 1, 0);
        fault(0, "shoca 3;", 1, 0);
        fault(0, "shoc k 3;", 1, 0);
        fault(0, "shock 3;Reach 1;", 1, 8);
        fault(0, "shock\t3;", 1, 5);
        fault(0, "shock 3,", 1, 7);
        fault(0, "shock -3;", 1, 6);
        fault(0, ";", 1, 0);
        fault(0, "3;", 1, 0);
        fault(0, "shock 3;;", 1, 8);
        fault(0, "year;", 1, 0);
        fault(0, "heard 1 1;", 1, 0);
        fault(0, "saying 0 0 0 0 1;", 1, 16);
        fault(0, "saying 0 0 0 0 1 0 0;", 1, 19);
        fault(0, "saying 0 0 0 0 1 reach", 1, 17);
        fault(0, "answers 0;", 1, 9);
        fault(0, "shock\u00e9 3;", 1, 5);
        fault(0, "shock\u0000 3;", 1, 5);
        fault(0, "shock 3;\u000b", 1, 8);
        fault(1, "year 1;", 1, 5);
        fault(1, "move 0;", 1, 6);
        fault(1, "open;", 1, 4);
        fault(1, "open 1 2;", 1, 7);
        fault(1, "shock 3;", 1, 0);
        fault(1, "year;year", 1, 9);
        fault(1, "yearyear;", 1, 0);
        fault(2, "heard 1;", 1, 7);
        fault(2, "heard 1 1 1;", 1, 10);
        fault(2, "year;", 1, 0);
        // of the first kind goes ahead of all others, wherever it is
        fault(0, "shock 10;shock;", 1, 14);
        fault(0, "answers 0 1;x", 1, 12);
        fault(1, "year;".repeat(41) + "open", 1, 209);
    }

    private static void promise5FaultsOfNumbers() {
        fault(0, "shock 9;reach 9;shock 0;reach 0;", 0, NONE);
        fault(0, "shock 10;", 2, 6);
        fault(0, "reach 10;", 2, 6);
        fault(0, "saying 30 5 30 5 40 20;saying 0 0 0 0 1 0;", 0, NONE);
        fault(0, "saying 31 0 0 0 1 0;", 2, 7);
        fault(0, "saying 0 6 0 0 1 0;", 2, 9);
        fault(0, "saying 0 0 31 0 1 0;", 2, 11);
        fault(0, "saying 0 0 0 6 1 0;", 2, 13);
        fault(0, "saying 0 0 0 0 0 0;", 2, 15);
        fault(0, "saying 0 0 0 0 41 0;", 2, 15);
        fault(0, "saying 0 0 0 0 1 21;", 2, 17);
        fault(0, "saying 99 99 0 0 0 0;", 2, 7);
        fault(0, "answers 1 1;", 2, 10);
        fault(0, "answers 7 0;", 2, 8);
        fault(0, "answers 0 7;", 2, 10);
        fault(0, "answers 7 7;", 2, 8);
        fault(0, "answers 1 01;", 2, 10);
        fault(0, "shock 10;reach 10;", 2, 6);
        // the fourth only if there is none of the others
        fault(0, "answers 0 1;shock 10;", 2, 18);
        fault(1, "open 6;wire 6;taint 6;move 6 20;", 0, NONE);
        fault(1, "open 7;", 2, 5);
        fault(1, "wire 7;", 2, 5);
        fault(1, "taint 7;", 2, 6);
        fault(1, "move 7 0;", 2, 5);
        fault(1, "move 0 21;", 2, 7);
        fault(2, "heard 1 0;heard 20 7;", 0, NONE);
        fault(2, "heard 0 0;", 2, 6);
        fault(2, "heard 21 0;", 2, 6);
        fault(2, "heard 1 8;", 2, 8);
    }

    private static void promise5FaultsOfCounts() {
        String saying = "saying 0 0 0 0 1 0;";
        fault(0, saying.repeat(7), 0, NONE);
        fault(0, saying.repeat(8), 3, 133);
        fault(0, saying.repeat(7) + "\n saying 31 0 0 0 1 0;", 3, 135);
        fault(0, "saying 31 0 0 0 1 0;" + saying.repeat(7), 2, 7);
        fault(0, "shock 1;".repeat(70), 0, NONE);
        fault(1, "year;".repeat(40), 0, NONE);
        fault(1, "year;".repeat(41), 3, 200);
        fault(1, "open 0;".repeat(40) + " taint 9;", 3, 281);
        fault(2, "heard 1 0;".repeat(8), 0, NONE);
        fault(2, "heard 1 0;".repeat(9), 3, 80);
        fault(0, "answers 0 1;", 4, 12);
        fault(0, saying + "answers 0 1; ", 4, 32);
        fault(0, saying + "answers 1 0;", 4, 31);
        fault(0, "answers 0 1;" + saying.repeat(2), 0, NONE);
        fault(0, "answers 6 0;answers 0 6;" + saying.repeat(7), 0, NONE);
        // years are not of any cellar, so no saying is missing there
        fault(1, "open 6;", 0, NONE);
    }

    private static void promise5Fault() {
        CorkedTalk x = new CorkedTalk();
        Teller.tell(x, 0, NONE, "shock 10;");
        T.due("fault(2)", NONE, x.fault(2));
        T.due("fault(-1)", NONE, x.fault(-1));
        T.due("fault(MIN)", NONE, x.fault(MIN));
        x.end(0);
        x.feed(0, 0, 0, 0, 0);
        T.due("feed and end leave the fault", 2, x.fault(0));
        T.due("feed and end leave its place", 6, x.fault(1));
        Teller.tell(x, 0, NONE, "shock 1;");
        T.due("no fault", 0, x.fault(0));
        T.due("no fault's place", NONE, x.fault(1));
    }

    private static void promise6Cellar() {
        CorkedTalk x = told();
        T.due("shock", 3, x.cellar(0, 0));
        T.due("reach", 2, x.cellar(0, 1));
        T.due("sayings", 4, x.cellar(0, 2));
        int[][] rows = {{10, 6, 20, 3}, {1, 0, 5, 0}, {4, 8, 0, 1}, {2, 0, 1, 0}, {7, 9, 5, 30}, {0, 2, 5, 4}, {4, 1, 2, 0}};
        for (int what = -5; what < 100; what++) {
            if (what >= 0 && what < 3) {
                continue;
            }
            boolean is = what >= 10 && what < 80 && what % 10 < 4;
            T.due("cellar(0, " + what + ")", is ? rows[what / 10 - 1][what % 10] : NONE, x.cellar(0, what));
        }
        T.due("cellar(1, 2)", 3, x.cellar(1, 2));
        T.due("cellar(1, 0)", 3, x.cellar(1, 0));
        T.due("cellar(2, 0)", NONE, x.cellar(2, 0));
        T.due("cellar(-1, 0)", NONE, x.cellar(-1, 0));
        T.due("cellar(MAX, MAX)", NONE, x.cellar(MAX, MAX));
        T.due("cellar(0, MIN)", NONE, x.cellar(0, MIN));
        CorkedTalk y = withCellar("answers 0 1;answers 0 2;answers 0 1;saying 1 0 0 0 1 0;saying 1 0 0 0 1 0;saying 1 0 0 0 1 0;");
        T.due("answers are further ones", 6, y.cellar(0, 70));
        Teller.tell(y, 0, 0, "saying 1 0 0 0 1 0;");
        T.due("no answers of an earlier text", 0, y.cellar(0, 70));
    }

    private static void promise7Deed() {
        CorkedTalk x = told();
        T.due("deeds", 9, x.deed(0, NONE, 0));
        int[][] deeds = {{0, -1, -1}, {3, 1, -1}, {4, 3, 10}, {2, 2, -1}, {0, -1, -1}, {1, 2, -1}, {1, 3, -1}, {0, -1, -1}, {1, 1, -1}};
        for (int k = 0; k < 9; k++) {
            for (int what = 0; what < 3; what++) {
                T.due("deed(0, " + k + ", " + what + ")", deeds[k][what], x.deed(0, k, what));
            }
            T.due("deed(0, k, 3)", -2, x.deed(0, k, 3));
            T.due("deed(0, k, -1)", -2, x.deed(0, k, -1));
        }
        T.due("deed(0, 9, 0)", -2, x.deed(0, 9, 0));
        T.due("deed(0, -2, 0)", -2, x.deed(0, -2, 0));
        T.due("deed(0, NONE, 1)", -2, x.deed(0, NONE, 1));
        T.due("deed(1, NONE, 0)", -2, x.deed(1, NONE, 0));
        T.due("deed(-1, NONE, 0)", -2, x.deed(-1, NONE, 0));
        T.due("deed(0, MAX, 0)", -2, x.deed(0, MAX, 0));
    }

    private static void till(String cellar, String years, int end) {
        CorkedTalk x = withCellar(cellar);
        Teller.tell(x, 1, NONE, years);
        T.due("till of " + years, end, x.till(0, 0));
    }

    private static void promise8Till() {
        CorkedTalk x = told();
        T.due("till(0, 0)", 8, x.till(0, 0));
        T.due("till(1, 0): nothing is opened that burst", 1, x.till(1, 0));
        T.due("till(2, 0)", NONE, x.till(2, 0));
        T.due("till(0, 1)", NONE, x.till(0, 1));
        T.due("till(-1, -1)", NONE, x.till(-1, -1));
        till(CELLAR, "", 0);
        till(CELLAR, "open 4;", 0);
        till(CELLAR, "open 3;open 3;", 1);
        till(CELLAR, "open 3;wire 3;", 1);
        till(CELLAR, "open 3;taint 3;", 1);
        till(CELLAR, "open 3;move 3 20;", 1);
        till(CELLAR, "wire 3;wire 3;", 1);
        till(CELLAR, "taint 3;taint 3;", 1);
        till(CELLAR, "wire 3;taint 3;wire 2;open 3;", 4);
        till(CELLAR, "move 3 4;", 0);
        till(CELLAR, "move 3 5;move 3 4;move 3 4;", 2);
        till("", "year;year;open 0;", 2);
        till("", "year;".repeat(40), 40);
    }

    private static void promise9State() {
        CorkedTalk x = told();
        // year, heard, bursts, gone, wired, tainted behind each deed
        int[][] by = {{0, 0, 0, 0, 0, 0}, {1, 0, 0, 0, 0, 0}, {1, 0, 0, 0, 0, 2}, {1, 0, 0, 0, 0, 2}, {1, 0, 0, 0, 4, 2},
            {2, 0, 2, 3, 4, 2}, {2, 10, 2, 7, 4, 2}, {2, 13, 2, 15, 4, 2}, {3, 13, 2, 15, 4, 2}};
        for (int n = 0; n < by.length; n++) {
            for (int what = 0; what < 6; what++) {
                T.due("state(0, 0, " + n + ", " + what + ")", by[n][what], x.state(0, 0, n, what));
            }
        }
        // wit, fizz, cork, place
        int[][] last = {{8, 6, 10, 3}, {8, 11, 2, 1}, {7, 9, 10, 30}, {0, 2, 5, 10}};
        for (int what = 6; what < 80; what++) {
            boolean is = what >= 10 && what < 50 && what % 10 < 4;
            T.due("state(0, 0, 8, " + what + ")", is ? last[what / 10 - 1][what % 10] : NONE, x.state(0, 0, 8, what));
        }
        T.due("wit in year 1", 15, x.state(0, 0, 1, 12));
        T.due("fizz in year 1", 6, x.state(0, 0, 1, 20));
        T.due("behind the end", NONE, x.state(0, 0, 9, 0));
        T.due("ahead of all", NONE, x.state(0, 0, -1, 0));
        T.due("far behind", NONE, x.state(0, 0, MAX, 0));
        T.due("another what", NONE, x.state(0, 0, 0, -1));
        T.due("another what", NONE, x.state(0, 0, 0, MIN));
        T.due("another cellar", NONE, x.state(2, 0, 0, 0));
        T.due("other years", NONE, x.state(0, 1, 0, 0));
    }

    private static void promise9Bursts() {
        CorkedTalk x = withCellar("saying 1 0 4 0 5 0;saying 1 0 9 0 5 0;saying 1 0 9 0 5 0;saying 1 0 5 0 5 2;saying 1 0 4 0 5 1;");
        Teller.tell(x, 1, NONE, "wire 0;move 4 20;year;");
        // 1 first, then 2 (0 is wired: 7 and 10 are not above 10)
        T.due("at first nothing bursts", 0, x.state(0, 0, 2, 2));
        T.due("bursts", 2, x.state(0, 0, 3, 2));
        T.due("gone", 6, x.state(0, 0, 3, 3));
        T.due("fizz 0", 10, x.state(0, 0, 3, 20));
        T.due("fizz 1", 9, x.state(0, 0, 3, 21));
        T.due("fizz 2", 12, x.state(0, 0, 3, 22));
        T.due("fizz 3, out of reach", 5, x.state(0, 0, 3, 23));
        Teller.tell(x, 1, 0, "year;");
        // 1, then the least that bursts: 0, then 2, then 4 (by three), then 3
        T.due("fizz 0", 7, x.state(0, 0, 1, 20));
        T.due("fizz 1", 9, x.state(0, 0, 1, 21));
        T.due("fizz 2", 15, x.state(0, 0, 1, 22));
        T.due("fizz 4", 13, x.state(0, 0, 1, 24));
        T.due("fizz 3", 8, x.state(0, 0, 1, 23));
        T.due("all", 31, x.state(0, 0, 1, 3));
        CorkedTalk y = withCellar("shock 0;saying 3 5 4 1 5 0;");
        Teller.tell(y, 1, NONE, "year;year;");
        T.due("as high as the cork holds", 0, y.state(0, 0, 1, 2));
        T.due("above it bursts", 1, y.state(0, 0, 2, 2));
        T.due("wit is 0 at least", 0, y.state(0, 0, 1, 10));
    }

    private static void promise10Train() {
        CorkedTalk x = told();
        int[] first = {3, 2, 4, 10};
        for (int s = 0; s < 4; s++) {
            T.due("train(0, " + s + ")", first[s], x.train(0, s));
        }
        // what is above its cork bursts in any train
        int[] second = {3, 3, 7};
        for (int s = 0; s < 3; s++) {
            T.due("train(1, " + s + ")", second[s], x.train(1, s));
        }
        T.due("train(0, 4)", NONE, x.train(0, 4));
        T.due("train(0, -1)", NONE, x.train(0, -1));
        T.due("train(2, 0)", NONE, x.train(2, 0));
        T.due("train(MIN, MAX)", NONE, x.train(MIN, MAX));
        CorkedTalk y = withCellar("shock 2;reach 1;saying 1 0 0 0 3 0;saying 1 0 0 0 3 1;saying 1 0 0 0 3 2;");
        T.due("one shock is not enough", 2, y.train(0, 1));
        Teller.tell(y, 0, 0, "shock 9;reach 1;saying 1 0 0 0 3 0;saying 1 0 0 0 30 1;saying 1 0 0 0 3 2;saying 0 0 22 0 30 1;");
        // 0 takes 3, both together and 2 don't take 1
        T.due("by those that burst by others", 1 | 8 | 4, y.train(0, 0));
    }

    private static void promise11Laying() {
        CorkedTalk x = told();
        T.due("laying(0)", 2, x.laying(0, NONE));
        int[] first = {0, 2, 4, 5};
        for (int k = 0; k < 4; k++) {
            T.due("laying(0, " + k + ")", first[k], x.laying(0, k));
        }
        T.due("laying(1)", 2, x.laying(1, NONE));
        int[] second = {7, 8, 7};
        for (int k = 0; k < 3; k++) {
            T.due("laying(1, " + k + ")", second[k], x.laying(1, k));
        }
        T.due("laying(1, 3)", NONE, x.laying(1, 3));
        T.due("laying(0, 4)", NONE, x.laying(0, 4));
        T.due("laying(0, -2)", NONE, x.laying(0, -2));
        T.due("laying(2, NONE)", NONE, x.laying(2, NONE));
        T.due("back to the first", 2, x.laying(0, 1));
        Teller.tell(x, 0, 0, "saying 1 0 0 0 40 9;saying 1 0 0 0 40 3;");
        T.due("another in its place", 1, x.laying(0, NONE));
        T.due("the first row", 3, x.laying(0, 0));
        T.due("the first row", 9, x.laying(0, 1));
        x.image(0);
        Teller.tell(x, 0, 0, "saying 1 0 0 0 40 5;");
        T.due("one alone", 5, x.laying(0, 0));
        x.again(0);
        T.due("again", 3, x.laying(0, 0));
    }

    private static void promise12Life() {
        CorkedTalk x = told();
        int[] first = {2, NONE, 6, NONE};
        for (int s = 0; s < 4; s++) {
            T.due("life(0, " + s + ")", first[s], x.life(0, s));
        }
        T.due("above its cork at first", 1, x.life(1, 0));
        T.due("life(0, 4)", NONE, x.life(0, 4));
        T.due("life(0, -1)", NONE, x.life(0, -1));
        T.due("life(2, 0)", NONE, x.life(2, 0));
        CorkedTalk y = withCellar("saying 0 0 0 1 40 0;saying 0 0 30 1 30 0;saying 0 0 1 0 1 0;saying 0 0 2 0 1 0;");
        T.due("41 years", 41, y.life(0, 0));
        T.due("1 year", 1, y.life(0, 1));
        T.due("never", NONE, y.life(0, 2));
        T.due("at once, by no rise", 1, y.life(0, 3));
    }

    private static void plan(CorkedTalk x, int n, int sum, int... row) {
        T.due("plan(0, " + n + ")", sum, x.plan(0, n, NONE));
        for (int k = 0; k < n; k++) {
            T.due("plan(0, " + n + ", " + k + ")", row[k], x.plan(0, n, k));
        }
        T.due("plan(0, n, n)", NONE, x.plan(0, n, n));
        T.due("plan(0, n, -2)", NONE, x.plan(0, n, -2));
    }

    private static void promise13Plan() {
        CorkedTalk x = told();
        plan(x, 0, 0);
        plan(x, 1, 20, 2);
        plan(x, 2, 29, 2, 0);
        plan(x, 3, 35, 2, 0, 1);
        plan(x, 5, 38, 2, 0, 1, 3, 7);
        plan(x, 10, 38, 2, 0, 1, 3, 7, 7, 7, 7, 7, 7);
        T.due("plan(0, 11)", NONE, x.plan(0, 11, NONE));
        T.due("plan(0, -1)", NONE, x.plan(0, -1, NONE));
        T.due("plan(2, 1)", NONE, x.plan(2, 1, NONE));
        T.due("plan(0, MIN, MAX)", NONE, x.plan(0, MIN, MAX));
        CorkedTalk y = withCellar("saying 5 0 9 0 5 7;saying 4 0 0 5 9 7;saying 0 0 0 0 1 1;");
        // 0 bursts in year 1, 1 in year 2; nothing's worth is better than nothing
        plan(y, 1, 5, 0);
        plan(y, 2, 9, 0, 1);
        plan(y, 3, 9, 0, 1, 2);
        CorkedTalk z = withCellar("saying 5 0 9 0 5 7;saying 5 0 9 0 5 7;");
        plan(z, 2, 5, 0, 7);
        CorkedTalk w = withCellar("saying 5 5 0 0 5 7;saying 5 0 0 0 5 7;saying 9 1 0 0 5 7;");
        // the wit of then: 5 now, 8 in year 1, 5 in year 2
        plan(w, 3, 18, 0, 2, 1);
    }

    private static void row(String name, int[] got, int worth, int... want) {
        T.due(name, worth, got[0]);
        for (int k = 0; k < got.length - 1; k++) {
            T.due(name + " " + k, k < want.length ? want[k] : NONE, got[k + 1]);
        }
    }

    private static int[] talk(CorkedTalk x) {
        int[] all = new int[10];
        for (int k = NONE; k < 9; k++) {
            all[k + 1] = x.talk(0, k);
        }
        return all;
    }

    private static int[] dinner(CorkedTalk x) {
        int[] all = new int[10];
        for (int k = NONE; k < 9; k++) {
            all[k + 1] = x.dinner(0, k);
        }
        return all;
    }

    private static void promise14Talk() {
        CorkedTalk x = told();
        row("talk", talk(x), 3, 0, 1, 2);
        T.due("talk(0, -2)", NONE, x.talk(0, -2));
        T.due("talk(0, MAX)", NONE, x.talk(0, MAX));
        T.due("talk(2, NONE)", NONE, x.talk(2, NONE));
        T.due("one is a row", 1, x.talk(1, NONE));
        T.due("the first is 0", 0, x.talk(1, 0));
        T.due("no second", NONE, x.talk(1, 1));
        String four = "saying 1 0 0 0 1 0;saying 1 0 0 0 1 0;saying 1 0 0 0 1 0;saying 1 0 0 0 1 0;";
        row("talk back", talk(withCellar(four + "answers 0 1;answers 1 3;answers 2 3;")), 3, 3, 1, 0);
        row("talk by the least", talk(withCellar(four + "answers 3 0;answers 2 0;answers 1 3;answers 1 2;")), 3, 0, 2, 1);
    }

    private static void promise15Dinner() {
        CorkedTalk x = told();
        row("dinner", dinner(x), 69, 1, 2, 0, 3);
        T.due("dinner(0, -2)", NONE, x.dinner(0, -2));
        T.due("dinner(0, MIN)", NONE, x.dinner(0, MIN));
        T.due("dinner(2, NONE)", NONE, x.dinner(2, NONE));
        T.due("without answers", 9, x.dinner(1, NONE));
        T.due("by numbers", 2, x.dinner(1, 2));
        row("no wit", dinner(withCellar("saying 0 0 0 0 1 0;saying 0 0 0 0 1 0;answers 0 1;")), 0, 0, 1);
        row("one", dinner(withCellar("saying 7 0 0 0 1 0;saying 1 0 0 0 1 0;answers 0 1;")), 15, 1, 0);
    }

    private static void promise16Wires() {
        CorkedTalk x = told();
        int[] bits = {0, 0, 1, 1, 1, NONE, NONE};
        for (int n = 0; n < bits.length; n++) {
            T.due("wires(0, " + n + ", true)", bits[n], x.wires(0, n, true));
            T.due("wires(0, " + n + ", false)", bits[n] == NONE ? NONE : bits[n] == 1 ? 1 : 0, x.wires(0, n, false));
        }
        T.due("in no years nothing bursts", 0, x.wires(1, 0, true));
        T.due("one wire for all years", 1, x.wires(1, 20, true));
        T.due("another n", NONE, x.wires(1, 21, false));
        T.due("another n", NONE, x.wires(1, -1, false));
        T.due("another cellar", NONE, x.wires(2, 0, false));
        CorkedTalk y = withCellar("saying 0 0 0 1 15 0;saying 0 0 1 1 20 0;saying 0 0 2 1 16 0;");
        T.due("for 19 years", 5, y.wires(0, 19, true));
        T.due("for 19 years", 2, y.wires(0, 19, false));
        T.due("all of them, but not enough", NONE, y.wires(0, 20, true));
    }

    private static void duel(CorkedTalk x, int n, int more, int first) {
        T.due("duel(0, " + n + ", false)", more, x.duel(0, n, false));
        T.due("duel(0, " + n + ", true)", first, x.duel(0, n, true));
    }

    private static void promise17Duel() {
        CorkedTalk x = told();
        duel(x, 0, 0, NONE);
        duel(x, 1, 20, 2);
        duel(x, 2, 0, 2);
        T.due("duel(0, 6)", -999, x.duel(0, 6, true));
        T.due("duel(0, -1)", -999, x.duel(0, -1, false));
        T.due("duel(2, 0)", -999, x.duel(2, 0, false));
        T.due("duel(MIN, MAX)", -999, x.duel(MIN, MAX, true));
        CorkedTalk y = withCellar("saying 1 0 0 0 1 0;saying 9 0 0 0 1 0;answers 1 0;");
        // the second opens 1 in any case
        duel(y, 1, 9, 1);
        duel(y, 2, 8, 1);
        // nothing is no answer's end: the last that was opened is still 0
        CorkedTalk z = withCellar("saying 0 0 0 0 1 0;saying 5 0 0 0 1 0;answers 1 0;");
        // 1 now is 5; 0 first leaves 10 to the second
        duel(z, 2, 5, 1);
        // by three: 1, then no more: 5; nothing first: the second has 1 or waits
        duel(z, 3, 5, 1);
        CorkedTalk w = withCellar("saying 0 0 0 0 1 0;saying 0 0 0 0 1 0;");
        duel(w, 5, 0, 0);
        CorkedTalk v = withCellar("saying 3 0 0 0 1 0;saying 30 0 0 0 1 0;saying 30 0 0 0 1 0;answers 1 0;answers 2 0;");
        // after 0 the second takes 60; 1 against 2 is 0, and then 3
        duel(v, 3, 3, 1);
        CorkedTalk u = withCellar("saying 1 0 0 0 1 0;saying 9 0 0 0 1 0;saying 9 0 0 0 1 0;answers 1 2;answers 2 1;answers 0 1;answers 0 2;");
        // who opens first of the two gives the other one double, so 0 goes ahead
        duel(u, 2, -8, 0);
    }

    private static void hold(CorkedTalk x, int cellar, int p, int y, int n, long some, long of) {
        String call = "hold(" + cellar + ", " + p + ", " + y + ", " + n + ", ";
        T.due(call + "false)", some, x.hold(cellar, p, y, n, false));
        T.due(call + "true)", of, x.hold(cellar, p, y, n, true));
    }

    private static void promise18Hold() {
        CorkedTalk x = told();
        hold(x, 0, 5, 1, 4, 1, 16);
        hold(x, 0, 5, 1, 2, 11, 16);
        hold(x, 0, 5, 1, 0, 1, 1);
        hold(x, 0, 1, 2, 1, 3940399, 100000000);
        hold(x, 0, 5, 1, 5, 0, 1);
        hold(x, 0, 0, 0, 4, 1, 1);
        hold(x, 0, 0, 1, 1, 0, 1);
        hold(x, 0, 0, 2, 0, 1, 1);
        hold(x, 0, 10, 2, 4, 1, 1);
        hold(x, 0, 5, 0, 4, 1, 1);
        hold(x, 1, 2, 1, 1, 61, 125);
        int[][] wrong = {{2, 1, 1, 1}, {-1, 1, 1, 1}, {0, 11, 1, 1}, {0, -1, 1, 1}, {0, 1, 3, 1}, {0, 1, -1, 1}, {0, 1, 1, 8}, {0, 1, 1, -1}};
        for (int[] w : wrong) {
            hold(x, w[0], w[1], w[2], w[3], NONE, NONE);
        }
        CorkedTalk y = withCellar("saying 0 0 0 0 1 0;".repeat(7));
        hold(y, 0, 9, 2, 7, 22876792454961L, 100000000000000L);
        hold(y, 0, 1, 2, 7, 1, 100000000000000L);
        hold(y, 0, 5, 2, 7, 1, 16384);
    }

    private static void promise19Fact() {
        CorkedTalk x = told();
        T.due("facts", 1, x.fact(0, NONE, 0));
        Teller.tell(x, 2, NONE, "heard 20 7;heard 1 0;heard 1 0;");
        T.due("further facts", 3, x.fact(1, NONE, 0));
        int[][] facts = {{20, 7}, {1, 0}, {1, 0}};
        for (int k = 0; k < 3; k++) {
            T.due("year", facts[k][0], x.fact(1, k, 0));
            T.due("how many", facts[k][1], x.fact(1, k, 1));
            T.due("another what", -2, x.fact(1, k, 2));
            T.due("another what", -2, x.fact(1, k, -1));
        }
        T.due("no such fact", -2, x.fact(1, 3, 0));
        T.due("no such fact", -2, x.fact(1, -2, 0));
        T.due("another what", -2, x.fact(1, NONE, 1));
        T.due("no such log", -2, x.fact(2, NONE, 0));
        T.due("no such log", -2, x.fact(-1, NONE, 0));
    }

    private static void promise20Fits() {
        CorkedTalk x = told();
        int[] laws = {22, 23, 24, 25, 26, 27, 28, 29, 32, 33, 42, 43};
        T.due("how many", 12, x.fits(0, 0, 0));
        for (int k = 0; k < 12; k++) {
            T.due("the k-th", laws[k], x.fits(0, 0, 10 + k));
        }
        T.due("sure of reach", NONE, x.fits(0, 0, 1));
        T.due("sure of shock", NONE, x.fits(0, 0, 2));
        T.due("ask", 6, x.fits(0, 0, 3));
        int[] wrong = {-1, 4, 9, 22, 110, MIN, MAX};
        for (int what : wrong) {
            T.due("fits(0, 0, " + what + ")", -2, x.fits(0, 0, what));
        }
        T.due("no such cellar", -2, x.fits(2, 0, 0));
        T.due("no such log", -2, x.fits(0, 1, 0));
        Teller.tell(x, 2, 0, "heard 2 2;heard 6 1;");
        T.due("sure of reach 2", 2, x.fits(0, 0, 1));
        T.due("not of shock", NONE, x.fits(0, 0, 2));
        T.due("eight", 8, x.fits(0, 0, 0));
        T.due("all alike: the first year", 1, x.fits(0, 0, 3));
        Teller.tell(x, 2, 0, "heard 3 1;heard 2 2;");
        T.due("sure of shock 3", 3, x.fits(0, 0, 2));
        T.due("not of reach", NONE, x.fits(0, 0, 1));
        Teller.tell(x, 2, NONE, "heard 3 1;heard 3 0;");
        T.due("none", 0, x.fits(0, 1, 0));
        for (int what = 1; what < 4; what++) {
            T.due("none: " + what, NONE, x.fits(0, 1, what));
        }
        T.due("none: the first", -2, x.fits(0, 1, 10));
        Teller.tell(x, 2, 1, "");
        T.due("all", 100, x.fits(0, 1, 0));
        T.due("the last", 99, x.fits(0, 1, 109));
        Teller.tell(x, 2, 1, "heard 2 2;heard 6 1;heard 6 1;heard 2 2;");
        T.due("told twice", 8, x.fits(0, 1, 0));
        Teller.tell(x, 0, 1, "shock 5;reach 7;saying 9 0 5 1 24 0;saying 9 0 0 0 8 7;saying 9 0 0 0 9 8;");
        Teller.tell(x, 2, 1, "heard 20 2;heard 19 0;");
        // 1 is shocked by 9 at a distance of 7, and 2 by 9 from 1, which is not above 9; from 0 it is at a distance of 8
        T.due("one law", 1, x.fits(1, 1, 0));
        T.due("the law", 79, x.fits(1, 1, 10));
        T.due("one law: reach", 7, x.fits(1, 1, 1));
        T.due("one law: shock", 9, x.fits(1, 1, 2));
        T.due("one law: the first year", 1, x.fits(1, 1, 3));
        T.due("one law: least", 9, x.shock(1, 1, false));
        T.due("one law: greatest", 9, x.shock(1, 1, true));
        T.due("one law: odds", 1, x.odds(1, 1, 7, true));
        Teller.tell(x, 2, 1, "");
        T.due("ask in the last year", 20, x.fits(1, 1, 3));
        Teller.tell(x, 0, 0, "");
        T.due("another cellar there", 0, x.fits(0, 0, 0));
        x.image(0);
        Teller.tell(x, 0, 0, CELLAR);
        T.due("and back", 2, x.fits(0, 0, 0));
        x.again(0);
        T.due("again", 0, x.fits(0, 0, 0));
    }

    private static void promise21Drawn() {
        CorkedTalk x = told();
        // by seed 1: move 2 12; year; move 3 2; taint 0; wire 1; taint 0 (no more); move 1 16; taint 3; open 2; open 2 (no more)
        int[] ten = {1, 15, 0, 4, 2, 9};
        for (int what = 0; what < 6; what++) {
            T.due("drawn(0, 1, 10, " + what + ")", ten[what], x.drawn(0, 1, 10, what));
        }
        int[][] twenty = {{8, 6, 15, 3}, {8, 8, 1, 1}, {7, 14, 5, 30}, {0, 16, 12, 2}};
        for (int what = 6; what < 60; what++) {
            boolean is = what >= 10 && what < 50 && what % 10 < 4;
            T.due("drawn(0, 1, 20, " + what + ")", is ? twenty[what / 10 - 1][what % 10] : NONE, x.drawn(0, 1, 20, what));
        }
        T.due("years by 20", 7, x.drawn(0, 1, 20, 0));
        T.due("bursts by 20", 1, x.drawn(0, 1, 20, 2));
        T.due("seed -7", 13, x.drawn(0, -7, 20, 0));
        T.due("seed -7: heard", 6, x.drawn(0, -7, 20, 1));
        T.due("none drawn", 0, x.drawn(0, 1, 0, 0));
        T.due("60", true, x.drawn(0, 5, 60, 0) != NONE);
        T.due("61", NONE, x.drawn(0, 5, 61, 0));
        T.due("-1", NONE, x.drawn(0, 5, -1, 0));
        T.due("another what", NONE, x.drawn(0, 5, 5, 6));
        T.due("another what", NONE, x.drawn(0, 5, 5, -1));
        T.due("another cellar", NONE, x.drawn(2, 5, 5, 0));
        T.due("without sayings", 3, withCellar("").drawn(0, 1, 10, 0));
    }

    private static void promise22Wit() {
        CorkedTalk x = told();
        int[] first = {2, 39, 1, 2, 20, 23, 1, 1, 4, 1, 2, 4, 8, 3, 44, 7, NONE, 0, 10};
        int[] second = {0, 9, 0, 2, 9, 1, 0, 2, 2, 1, 1, NONE, 7, NONE, 49, 2, 12, 0, 6};
        for (int what = 0; what < 19; what++) {
            T.due("wit(0, " + what + ")", first[what], x.wit(0, what));
            T.due("wit(1, " + what + ")", second[what], x.wit(1, what));
            T.due("wit(2, " + what + ")", -2, x.wit(2, what));
        }
        T.due("another what", -2, x.wit(0, 19));
        T.due("another what", -2, x.wit(0, -1));
        T.due("another what", -2, x.wit(0, MIN));
        CorkedTalk y = withCellar("shock 9;reach 1;saying 5 5 0 0 5 0;saying 5 5 0 0 5 1;saying 5 5 0 0 5 3;saying 5 5 0 0 5 4;answers 0 1;answers 1 0;");
        T.due("of several the least", 0, y.wit(0, 0));
        T.due("of several the least", 0, y.wit(0, 2));
        T.due("of several the least", 0, y.wit(0, 3));
        T.due("of two", 10, y.wit(0, 4));
        T.due("of several the least two", 1, y.wit(0, 5));
        T.due("two rows", 2, y.wit(0, 7));
        T.due("of two", 2, y.wit(0, 8));
        T.due("cut two", 2, y.wit(0, 9));
        T.due("the least two", 5, y.wit(0, 10));
        T.due("good till year 1", 1, y.wit(0, 11));
        T.due("two are mute", 12, y.wit(0, 12));
        T.due("ring of two", 2, y.wit(0, 13));
        T.due("always calm", 50, y.wit(0, 14));
        T.due("from the first", 1, y.wit(0, 15));
        T.due("all last", 15, y.wit(0, 18));
        T.due("none is the earliest", NONE, y.wit(0, 17));
        CorkedTalk u = withCellar("shock 0;saying 9 0 0 1 16 0;saying 9 0 0 1 33 20;");
        T.due("three rows of calm years", 16, u.wit(0, 14));
        T.due("the first of several", 1, u.wit(0, 15));
        T.due("as far as can be", 1, u.wit(0, 5));
        T.due("as far as can be", 20, u.wit(0, 6));
        CorkedTalk v = withCellar("saying 1 0 0 0 1 0;saying 1 0 0 0 1 3;saying 1 0 0 0 1 6;saying 1 0 0 0 1 9;saying 1 0 0 0 1 12;"
            + "saying 1 0 0 0 1 18;saying 1 0 0 0 1 20;");
        T.due("the last two", 56, v.wit(0, 5));
        T.due("the last two", 2, v.wit(0, 6));
        CorkedTalk z = withCellar("saying 4 1 0 0 1 0;");
        T.due("half is not less", 3, z.wit(0, 11));
        T.due("one is never close", NONE, z.wit(0, 5));
        T.due("one is never close", 0, z.wit(0, 6));
        T.due("one needs no cut", 0, z.wit(0, 9));
        T.due("one is no pair", NONE, z.wit(0, 16));
    }

    private static void promise23Flat() {
        CorkedTalk x = told();
        int[] by = {0, 0, 0, 0, 1, 1, 1, 1, 1, 1, 2};
        for (int n = 0; n < by.length; n++) {
            T.due("flat(0, " + n + ")", by[n], x.flat(0, n));
        }
        T.due("flat(0, 50)", 2, x.flat(0, 50));
        T.due("flat(0, 51)", NONE, x.flat(0, 51));
        T.due("flat(0, -1)", NONE, x.flat(0, -1));
        T.due("flat(2, 0)", NONE, x.flat(2, 0));
        T.due("flat in year 0", 1, withCellar("saying 0 0 0 0 1 0;").flat(0, 0));
    }

    private static void promise24Next() {
        CorkedTalk x = told();
        for (int n = 1; n <= 50; n++) {
            T.due("next(0, " + n + ")", n == 2 ? 2 : n == 6 ? 1 : 0, x.next(0, n));
            T.due("next(1, " + n + ")", n == 1 ? 2 : 0, x.next(1, n));
        }
        T.due("next(0, 0)", NONE, x.next(0, 0));
        T.due("next(0, 51)", NONE, x.next(0, 51));
        T.due("next(0, MIN)", NONE, x.next(0, MIN));
        T.due("next(2, 1)", NONE, x.next(2, 1));
    }

    private static void promise25Half() {
        CorkedTalk x = told();
        int[] wit = {0, 20, 23, NONE, NONE, NONE, NONE, NONE};
        int[] bits = {0, 4, 12, NONE, NONE, NONE, NONE, NONE};
        for (int k = 0; k < 8; k++) {
            T.due("half(0, " + k + ", false)", wit[k], x.half(0, k, false));
            T.due("half(0, " + k + ", true)", bits[k], x.half(0, k, true));
        }
        T.due("half(0, 8)", NONE, x.half(0, 8, false));
        T.due("half(0, -1)", NONE, x.half(0, -1, true));
        T.due("half(2, 0)", NONE, x.half(2, 0, true));
        T.due("of several the least", 1, x.half(1, 1, true));
        T.due("of two", 3, x.half(1, 2, true));
        T.due("all", 9, x.half(1, 3, false));
        CorkedTalk full = withCellar("saying 3 0 0 0 9 0;".repeat(7));
        T.due("all of seven", 21, full.half(0, 7, false));
        T.due("all of seven", 127, full.half(0, 7, true));
    }

    private static void promise26After() {
        CorkedTalk x = told();
        int[] first = {2, 2, 2, 14, 0, 1};
        int[] second = {1, 1, NONE, 8, 0, 0};
        for (int what = 0; what < 6; what++) {
            T.due("after(0, 0, " + what + ")", first[what], x.after(0, 0, what));
            T.due("after(1, 0, " + what + ")", second[what], x.after(1, 0, what));
        }
        T.due("another what", -2, x.after(0, 0, 6));
        T.due("another what", -2, x.after(0, 0, -1));
        T.due("another cellar", -2, x.after(2, 0, 0));
        T.due("other years", -2, x.after(0, 1, 0));
        Teller.tell(x, 1, NONE, "taint 2;open 2;open 0;year;open 1;move 3 1;move 3 2;open 3;");
        int[] third = {NONE, NONE, 0, 0, 1, 2};
        for (int what = 0; what < 6; what++) {
            T.due("after(0, 1, " + what + ")", third[what], x.after(0, 1, what));
        }
        CorkedTalk y = withCellar("shock 0;saying 4 0 0 1 1 0;saying 4 1 0 2 4 0;saying 5 1 9 0 9 0;saying 4 0 9 0 9 0;");
        Teller.tell(y, 1, NONE, "year;open 3;open 2;year;year;");
        T.due("the first of several years", 2, y.after(0, 0, 1));
        T.due("the least of several", 2, y.after(0, 0, 2));
        T.due("wit as it was then", 4 + 1, y.after(0, 0, 3));
        Teller.tell(y, 1, 0, "year;open 2;open 3;");
        T.due("the least of several, opened first", 2, y.after(0, 0, 2));
        Teller.tell(y, 1, 0, "taint 0;year;year;");
        T.due("tainted ones are waste too", 4, y.after(0, 0, 3));
        T.due("nothing was opened", NONE, y.after(0, 0, 2));
    }

    private static void promise27Odds() {
        CorkedTalk x = told();
        int[][] by = {{0, 1}, {0, 1}, {2, 3}, {1, 6}, {1, 6}, {0, 1}, {0, 1}, {0, 1}, {0, 1}, {0, 1}};
        for (int reach = 0; reach < 10; reach++) {
            T.due("odds(0, 0, " + reach + ", false)", by[reach][0], x.odds(0, 0, reach, false));
            T.due("odds(0, 0, " + reach + ", true)", by[reach][1], x.odds(0, 0, reach, true));
        }
        T.due("another reach", NONE, x.odds(0, 0, 10, false));
        T.due("another reach", NONE, x.odds(0, 0, -1, true));
        T.due("another cellar", NONE, x.odds(2, 0, 0, true));
        T.due("another log", NONE, x.odds(0, 1, 0, true));
        Teller.tell(x, 2, 0, "heard 1 7;");
        T.due("nothing fits", NONE, x.odds(0, 0, 2, false));
        T.due("nothing fits", NONE, x.odds(0, 0, 2, true));
        Teller.tell(x, 2, 0, "heard 2 2;heard 6 1;");
        T.due("sure", 1, x.odds(0, 0, 2, false));
        T.due("sure", 1, x.odds(0, 0, 2, true));
    }

    private static void promise28Shock() {
        CorkedTalk x = told();
        T.due("least", 2, x.shock(0, 0, false));
        T.due("greatest", 9, x.shock(0, 0, true));
        T.due("another cellar", NONE, x.shock(2, 0, true));
        T.due("another log", NONE, x.shock(0, 1, false));
        Teller.tell(x, 2, 0, "heard 1 7;");
        T.due("nothing fits", NONE, x.shock(0, 0, false));
        T.due("nothing fits", NONE, x.shock(0, 0, true));
        Teller.tell(x, 2, 0, "");
        T.due("all fit", 0, x.shock(0, 0, false));
        T.due("all fit", 9, x.shock(0, 0, true));
    }

    private static void promise29Count() {
        CorkedTalk x = told();
        T.due("cellars", 2, x.count(0));
        T.due("years", 1, x.count(1));
        T.due("logs", 1, x.count(2));
        T.due("count(3)", -2, x.count(3));
        T.due("count(-1)", -2, x.count(-1));
        T.due("count(MIN)", -2, x.count(MIN));
        Teller.tell(x, 1, 0, "year;");
        T.due("in place of one", 1, x.count(1));
    }

    private static void promise30And31Images() {
        CorkedTalk x = new CorkedTalk();
        T.due("image(3)", false, x.image(3));
        T.due("image(-1)", false, x.image(-1));
        T.due("again(0) without", false, x.again(0));
        T.due("image(2) of nothing", true, x.image(2));
        Teller.tell(x, 0, NONE, CELLAR);
        Teller.tell(x, 1, NONE, YEARS);
        Teller.tell(x, 2, NONE, "heard 2 2;");
        Teller.tell(x, 0, NONE, "shock 10;");
        Teller.tape(x, Teller.bytes("year;"), 0);
        T.due("image(0)", true, x.image(0));
        Teller.tell(x, 0, 0, LIVELY);
        Teller.tell(x, 1, NONE, "");
        Teller.tell(x, 2, 0, "");
        T.due("the image is not what is told", 3, x.cellar(0, 2));
        T.due("again(0)", true, x.again(0));
        T.due("again: fault", 2, x.fault(0));
        T.due("again: place", 6, x.fault(1));
        T.due("again: sayings", 4, x.cellar(0, 2));
        T.due("again: till", 8, x.till(0, 0));
        T.due("again: years", 1, x.count(1));
        T.due("again: facts", 1, x.fact(0, NONE, 0));
        T.due("again: the tape", 0, x.text(1, 0));
        T.due("again: the tape's deed", 1, x.deed(0, NONE, 0));
        T.due("an image stays", true, x.again(0));
        T.due("an image stays: deeds", 9, x.deed(0, NONE, 0));
        T.due("again(2)", true, x.again(2));
        T.due("again to nothing", 0, x.count(0) + x.count(1) + x.count(2) + x.end(0) + x.fault(0));
        T.due("images are not in images", true, x.again(0));
        T.due("over an image", true, x.image(2));
        Teller.tell(x, 0, 0, LIVELY);
        T.due("again(2) once more", true, x.again(2));
        T.due("over an image: sayings", 4, x.cellar(0, 2));
        T.due("again(1)", false, x.again(1));
        T.due("again(3)", false, x.again(3));
        T.due("again(MIN)", false, x.again(MIN));
        T.due("a false again changes nothing", 4, x.cellar(0, 2));
    }

    private static void emptyCellar() {
        CorkedTalk x = withCellar("");
        Teller.tell(x, 1, NONE, "year;");
        Teller.tell(x, 2, NONE, "heard 1 0;");
        int[] wit = {NONE, 0, NONE, NONE, 0, NONE, 0, 0, 0, 0, 0, NONE, 0, NONE, 50, 1, NONE, NONE, 0};
        for (int what = 0; what < wit.length; what++) {
            T.due("empty: wit(0, " + what + ")", wit[what], x.wit(0, what));
        }
        T.due("empty: laying", 0, x.laying(0, NONE));
        T.due("empty: laying of 0", NONE, x.laying(0, 0));
        plan(x, 2, 0, 7, 7);
        row("empty: talk", talk(x), 0);
        row("empty: dinner", dinner(x), 0);
        T.due("empty: wires", 0, x.wires(0, 20, false) + x.wires(0, 20, true));
        duel(x, 3, 0, 7);
        hold(x, 0, 5, 2, 0, 1, 1);
        hold(x, 0, 5, 2, 1, 0, 1);
        T.due("empty: fits", 100, x.fits(0, 0, 0));
        T.due("empty: state", 1, x.state(0, 0, 1, 0));
        T.due("empty: flat", 0, x.flat(0, 50));
        T.due("empty: next", 0, x.next(0, 50));
        T.due("empty: half", 0, x.half(0, 0, true) + x.half(0, 0, false));
        T.due("empty: half of 1", NONE, x.half(0, 1, false));
    }
}
