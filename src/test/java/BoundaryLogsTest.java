import java.math.BigInteger;

/** The boundary cases of laws that fit a log: Terms 4, ODDS, LEAST and GREATEST; promises 20, 27, 28. */
public final class BoundaryLogsTest {
    private static final int NONE = CorkedTalk.NONE;
    private static final int MIN = Integer.MIN_VALUE;
    private static final int MAX = Integer.MAX_VALUE;
    private static final int[] NO_NUMBERS = {-1, 1, 2, MIN, MAX};
    private static final Teller T = new Teller();

    public static void main(String[] args) {
        lawsOfTwo();
        oneLaw();
        shocksByReach();
        yearsAndBursts();
        allFacts();
        allLaws();
        nothingFits();
        ask();
        fits();
        odds();
        shock();
        others();
        T.finish("BoundaryLogsTest");
    }

    private static int fitting(String cellar, String log) {
        return Teller.told(cellar, null, log).fits(0, 0, 0);
    }

    /** The first bursts in year 1; the second, so far from it, does too, if it is reached and the shock is as great as said. */
    private static String two(int far, int least) {
        return "saying 0 0 2 0 1 20;saying 0 0 " + (11 - least) + " 0 10 " + (20 - far) + ";";
    }

    private static void lawsOfTwo() {
        T.says("LAWS, a REACH, 0 .. 9, and a SHOCK, 0 .. 9 (10 times the REACH, and the SHOCK), FIT");
        for (int far = 0; far <= 20; far++) {
            for (int least = 1; least <= 10; least++) {
                boolean[] both = new boolean[100];
                boolean[] one = new boolean[100];
                for (int law = 0; law < 100; law++) {
                    both[law] = law / 10 >= far && law % 10 >= least;
                    one[law] = !both[law];
                }
                lawsAre(two(far, least), "heard 1 2;", both);
                lawsAre("shock 9;reach 9;" + two(far, least), "heard 1 1;", one);
            }
        }
    }

    private static void oneLaw() {
        T.says("SURE of REACH, of SHOCK: it, if it is one in all that FIT");
        for (int reach = 5; reach <= 9; reach++) {
            for (int shock = 1; shock <= 9; shock++) {
                // the second goes by this law, the third by a greater shock, the fourth by a greater reach; none reaches another
                String cellar = "saying 0 0 2 0 1 10;saying 0 0 " + (11 - shock) + " 0 10 " + (10 - reach) + ";saying 0 0 " + (10 - shock)
                    + " 0 10 " + (10 + reach) + ";saying 0 0 " + (11 - shock) + " 0 10 " + (11 + reach) + ";";
                boolean[] one = new boolean[100];
                one[10 * reach + shock] = true;
                lawsAre(cellar, "heard 1 2;", one);
                ask(cellar, "heard 1 2;", 1);
            }
        }
    }

    /** One that two others shock by a reach of 1 or more, but only one by a reach of 0. */
    private static void shocksByReach() {
        T.says("LEAST, GREATEST: SHOCK of those that FIT");
        String cellar = "saying 0 0 2 0 1 5;saying 0 0 2 0 1 6;saying 0 0 0 0 5 5;";
        boolean[] three = new boolean[100];
        boolean[] two = new boolean[100];
        for (int law = 0; law < 100; law++) {
            three[law] = law % 10 >= (law / 10 == 0 ? 6 : 3);
            two[law] = !three[law];
        }
        lawsAre(cellar, "heard 1 3;", three);
        lawsAre(cellar, "heard 1 2;", two);
    }

    /** All that is told of laws, by which of them fit. */
    private static void lawsAre(String cellar, String log, boolean[] fit) {
        CorkedTalk x = Teller.told(cellar, null, log);
        String call = " of " + cellar + " by " + log;
        int many = 0;
        int[] byReach = new int[10];
        int[] byShock = new int[10];
        for (int law = 0; law < 100; law++) {
            if (fit[law]) {
                T.due("fits(0, 0, 10 + " + many + ")" + call, law, x.fits(0, 0, 10 + many));
                many++;
                byReach[law / 10]++;
                byShock[law % 10]++;
            }
        }
        T.due("fits(0, 0, 0)" + call, many, x.fits(0, 0, 0));
        T.due("no further law" + call, -2, x.fits(0, 0, 10 + many));
        T.due("sure of reach" + call, only(byReach), x.fits(0, 0, 1));
        T.due("sure of shock" + call, only(byShock), x.fits(0, 0, 2));
        T.due("least" + call, first(byShock), x.shock(0, 0, false));
        T.due("greatest" + call, last(byShock), x.shock(0, 0, true));
        for (int reach = 0; reach < 10; reach++) {
            int shared = BigInteger.valueOf(byReach[reach]).gcd(BigInteger.valueOf(many)).intValue();
            T.due("odds of " + reach + call, many == 0 ? NONE : byReach[reach] / shared, x.odds(0, 0, reach, false));
            T.due("odds of " + reach + call, many == 0 ? NONE : many / shared, x.odds(0, 0, reach, true));
        }
    }

    private static int first(int[] many) {
        for (int i = 0; i < many.length; i++) {
            if (many[i] > 0) {
                return i;
            }
        }
        return NONE;
    }

    private static int last(int[] many) {
        for (int i = many.length - 1; i >= 0; i--) {
            if (many[i] > 0) {
                return i;
            }
        }
        return NONE;
    }

    private static int only(int[] many) {
        return first(many) == last(many) ? first(many) : NONE;
    }

    private static void yearsAndBursts() {
        T.says("of each FACT so many BURST in that year");
        for (int life = 1; life <= 22; life++) {
            String one = life == 1 ? "saying 0 0 1 1 1 0;" : "saying 0 0 0 1 " + (life - 1) + " 0;";
            for (int year = 1; year <= 20; year++) {
                T.due("one of life " + life + ", heard in " + year, year == life ? 100 : 0, fitting(one, "heard " + year + " 1;"));
                T.due("one of life " + life + ", none heard in " + year, year == life ? 0 : 100, fitting(one, "heard " + year + " 0;"));
            }
        }
        for (int n = 0; n <= 7; n++) {
            for (int heard = 0; heard <= 7; heard++) {
                T.due(n + " burst, " + heard + " heard", n == heard ? 100 : 0, fitting("saying 0 0 2 0 1 0;".repeat(n), "heard 1 " + heard + ";"));
                T.due(n + " have burst, " + heard + " heard later", heard == 0 ? 100 : 0,
                    fitting("saying 0 0 2 0 1 0;".repeat(n), "heard 20 " + heard + ";"));
            }
        }
        // by as many shocks as others burst ahead of it
        T.due("seven by a shock of 9", 10, fitting("saying 0 0 2 0 1 0;" + "saying 0 0 0 0 8 0;".repeat(6), "heard 1 7;"));
        T.due("all seven, or one", 90, fitting("saying 0 0 2 0 1 0;" + "saying 0 0 0 0 8 0;".repeat(6), "heard 1 1;"));
    }

    private static void allFacts() {
        T.says("A LOG has FACTS, at most 8, from 0 on");
        String one = "saying 0 0 2 0 1 0;";
        String right = "heard 1 1;heard 2 0;heard 3 0;heard 4 0;heard 5 0;heard 6 0;heard 7 0;";
        T.due("eight that are right", 100, fitting(one, right + "heard 20 0;"));
        T.due("the eighth is not", 0, fitting(one, right + "heard 20 1;"));
        T.due("the first is not", 0, fitting(one, "heard 1 0;" + right));
        T.due("two of one year that are alike", 100, fitting(one, "heard 1 1;heard 1 1;"));
        T.due("two of one year that are not", 0, fitting(one, "heard 1 1;heard 1 0;"));
        T.due("in any order", 100, fitting(one, "heard 20 0;heard 1 1;"));
    }

    private static void allLaws() {
        T.says("FIT, if, all else as told, nothing being opened, wired, moved");
        boolean[] all = new boolean[100];
        java.util.Arrays.fill(all, true);
        lawsAre("", "", all);
        lawsAre("", "heard 1 0;heard 20 0;", all);
        lawsAre("shock 0;reach 0;saying 0 0 0 0 1 0;", "", all);
        lawsAre(two(3, 4), "", all);
        CorkedTalk x = Teller.told("saying 0 0 2 0 1 0;", "open 0;year;", "heard 1 1;");
        T.due("years of deeds do not count", 100, x.fits(0, 0, 0));
        // one law alone, the last
        boolean[] last = new boolean[100];
        last[99] = true;
        lawsAre(two(9, 9), "heard 1 2;", last);
    }

    private static void nothingFits() {
        T.says("What 0: how many FIT, 1: SURE of REACH, 2: of SHOCK (NONE: not one), 3: ASK (NONE: nothing FITS), 10 + k: the k-th.");
        CorkedTalk x = Teller.told("", null, "heard 1 1;");
        T.due("how many", 0, x.fits(0, 0, 0));
        T.due("sure of reach", NONE, x.fits(0, 0, 1));
        T.due("sure of shock", NONE, x.fits(0, 0, 2));
        T.due("ask", NONE, x.fits(0, 0, 3));
        T.due("the first", -2, x.fits(0, 0, 10));
        lawsAre("", "heard 1 1;", new boolean[100]);
        lawsAre("saying 0 0 2 0 1 0;", "heard 1 7;", new boolean[100]);
    }

    private static void ask(String cellar, String log, int year) {
        T.due("ask of " + cellar + " by " + log, year, Teller.told(cellar, null, log).fits(0, 0, 3));
    }

    private static void ask() {
        T.says("ASK: the year, 1 .. 20, in which of all that FIT the greatest number by which as many BURST is least, of several the first.");
        ask("", "", 1);
        ask("saying 0 0 2 0 1 0;", "", 1);
        // the second goes with the first by a shock of 5 or more: in which year it is that tells
        for (int life = 2; life <= 22; life++) {
            ask("saying 0 0 0 1 " + (life - 1) + " 0;saying 0 0 0 0 4 0;", "", life <= 20 ? life : 1);
        }
        // by a shock of 9 in year 3, by one of 5 or more in year 5: ten and ninety, or fifty and fifty
        String early = "saying 0 0 0 1 2 0;saying 0 0 0 0 8 0;";
        String late = "saying 0 0 0 1 4 20;saying 0 0 0 0 4 20;";
        ask(early + late, "", 5);
        ask(early + late, "heard 5 2;", 3);
        ask(early + late, "heard 5 1;", 1);
        ask(early + late, "heard 3 2;", 1);
        ask(early + late, "heard 3 1;", 5);
        // of several the first
        ask("saying 0 0 0 1 2 0;saying 0 0 0 0 4 0;" + late, "", 3);
        // fifty and fifty in year 3; in year 5 forty, thirty and thirty, by shocks of 0 to 3, 4 to 6, 7 to 9
        ask("saying 0 0 0 1 2 0;saying 0 0 0 0 4 0;saying 0 0 0 1 4 20;saying 0 0 0 0 3 20;saying 0 0 0 0 13 20;", "", 5);
        // as many as seven burst in one year
        ask("saying 0 0 0 1 19 0;" + "saying 0 0 0 0 8 0;".repeat(6), "", 20);
        ask("saying 0 0 2 0 1 0;" + "saying 0 0 1 0 1 0;".repeat(6), "heard 1 7;", 1);
        CorkedTalk twice = Teller.told("saying 0 0 0 1 19 0;" + "saying 0 0 0 0 4 0;".repeat(6), null, "");
        T.due("seven, or one, in year 20", 20, twice.fits(0, 0, 3));
        T.due("asked once more", 20, twice.fits(0, 0, 3));
        // two laws alone, 98 and 99, and one year that tells them apart
        ask(two(9, 8) + "saying 0 0 0 1 4 1;saying 0 0 0 0 8 1;", "heard 1 2;", 5);
    }

    private static void fits() {
        T.says("-2: there is none such (of any), or for another what.");
        CorkedTalk x = Teller.told(two(9, 9), null, "heard 1 2;");
        T.due("one law", 1, x.fits(0, 0, 0));
        for (int what : new int[] {-1, -2, 4, 5, 6, 7, 8, 9, 11, 12, 109, 110, MIN, MAX}) {
            T.due("fits(0, 0, " + what + ")", -2, x.fits(0, 0, what));
        }
        for (int no : NO_NUMBERS) {
            for (int what : new int[] {0, 1, 2, 3, 10}) {
                T.due("fits(" + no + ", 0, " + what + ")", -2, x.fits(no, 0, what));
                T.due("fits(0, " + no + ", " + what + ")", -2, x.fits(0, no, what));
            }
        }
    }

    private static void odds() {
        T.says("NONE: nothing FITS, another REACH, or there is none such (of either).");
        CorkedTalk x = Teller.told("", null, "");
        for (int reach : new int[] {-1, -2, 10, 11, MIN, MAX}) {
            T.due("odds(0, 0, " + reach + ", false)", NONE, x.odds(0, 0, reach, false));
            T.due("odds(0, 0, " + reach + ", true)", NONE, x.odds(0, 0, reach, true));
        }
        for (int no : NO_NUMBERS) {
            T.due("odds(" + no + ", 0, 0, false)", NONE, x.odds(no, 0, 0, false));
            T.due("odds(0, " + no + ", 0, true)", NONE, x.odds(0, no, 0, true));
        }
        T.due("odds(0, 0, 0, true)", 10, x.odds(0, 0, 0, true));
        T.due("odds(0, 0, 9, false)", 1, x.odds(0, 0, 9, false));
    }

    private static void shock() {
        T.says("LEAST, or (greatest) GREATEST. NONE: nothing FITS, or there is none such (of either).");
        CorkedTalk x = Teller.told("", null, "");
        T.due("least", 0, x.shock(0, 0, false));
        T.due("greatest", 9, x.shock(0, 0, true));
        for (int no : NO_NUMBERS) {
            T.due("shock(" + no + ", 0, false)", NONE, x.shock(no, 0, false));
            T.due("shock(0, " + no + ", true)", NONE, x.shock(0, no, true));
        }
        Teller.tell(x, 2, 0, "heard 1 1;");
        T.due("nothing fits: least", NONE, x.shock(0, 0, false));
        T.due("nothing fits: greatest", NONE, x.shock(0, 0, true));
    }

    /** What was asked of one cellar and one log is not answered of another. */
    private static void others() {
        T.says("By a LOG in a CELLAR");
        CorkedTalk x = Teller.told(two(9, 9), null, "heard 1 2;");
        Teller.tell(x, 0, NONE, two(8, 9));
        Teller.tell(x, 2, NONE, "heard 1 1;");
        int[][] due = {{1, 99}, {2, 98}};
        for (int i = 0; i < 8; i++) {
            T.due("fits(" + i % 2 + ", " + i / 2 % 2 + ", 0)", due[i % 2][i / 2 % 2], x.fits(i % 2, i / 2 % 2, 0));
        }
        x.image(0);
        Teller.tell(x, 0, 0, two(9, 8));
        T.due("another cellar in its place", 2, x.fits(0, 0, 0));
        T.due("sure of its reach", 9, x.fits(0, 0, 1));
        T.due("the other one as before", 2, x.fits(1, 0, 0));
        T.due("sure of the other one's shock", 9, x.fits(1, 0, 2));
        x.again(0);
        T.due("again", 1, x.fits(0, 0, 0));
        Teller.tell(x, 2, 0, "heard 1 3;");
        T.due("another log in its place", 0, x.fits(0, 0, 0));
    }
}
