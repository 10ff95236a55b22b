/** The boundary cases of what a cellar as told shows: Terms 3 and 5; promises 10 to 18, 22, 23, 25. */
public final class BoundaryCellarsTest {
    private static final int NONE = CorkedTalk.NONE;
    private static final int MIN = Integer.MIN_VALUE;
    private static final int MAX = Integer.MAX_VALUE;
    private static final int[] NO_NUMBERS = {-1, 1, 2, MIN, MAX};
    /** Seven that never burst by themselves, at places 0, 3, .. 18. */
    private static final String CALM_SEVEN = row(7, "saying 1 0 0 0 40 ", 3);
    private static final String RING_OF_SEVEN = answers(7, 1, true);
    private static final Teller T = new Teller();

    public static void main(String[] args) {
        train();
        laying();
        layingRows();
        life();
        plan();
        planAndLife();
        talk();
        dinner();
        wires();
        duel();
        duelAnswers();
        hold();
        holdNumbers();
        wittiest();
        ruin();
        close();
        rows();
        cut();
        good();
        earliestAndLasting();
        muteAndRing();
        calm();
        pair();
        wit();
        flat();
        half();
        T.finish("BoundaryCellarsTest");
    }

    private static String row(int n, String saying, int gap) {
        StringBuilder all = new StringBuilder();
        for (int s = 0; s < n; s++) {
            all.append(saying).append(gap * s).append(";");
        }
        return all.toString();
    }

    /** Each of n answers the one that is so far behind it; around the end, if it is a ring. */
    private static String answers(int n, int step, boolean ring) {
        StringBuilder all = new StringBuilder();
        for (int s = 0; s < n; s++) {
            int other = s + step;
            if (ring || other >= 0 && other < n) {
                all.append("answers ").append(s).append(" ").append(Math.floorMod(other, n)).append(";");
            }
        }
        return all.toString();
    }

    private static String wits(int... wits) {
        StringBuilder all = new StringBuilder();
        for (int wit : wits) {
            all.append("saying ").append(wit).append(" 0 0 0 40 0;");
        }
        return all.toString();
    }

    // ---- promises 10 to 12

    private static void train(String cellar, int... want) {
        CorkedTalk x = Teller.cellar(cellar);
        for (int s = 0; s < want.length; s++) {
            T.due("train(0, " + s + ") of " + cellar, want[s], x.train(0, s));
        }
        T.due("train beyond the last", NONE, x.train(0, want.length));
    }

    private static void train() {
        T.says("TRAIN of a SAYING: it BURSTS now, whatever its CORK, then whatever BURSTS, BURSTS at once: which are GONE then (bits, it, too).");
        train("saying 0 0 0 0 40 0;", 1);
        train("shock 1;reach 0;" + row(6, "saying 1 0 5 0 5 ", 0) + "saying 1 0 0 0 5 0;", 127, 127, 127, 127, 127, 127, 127);
        train("shock 1;reach 0;" + row(6, "saying 1 0 5 0 5 ", 0) + "saying 1 0 0 0 6 0;", 63, 63, 63, 63, 63, 63, 127);
        train("shock 0;reach 9;" + row(7, "saying 1 0 5 0 5 ", 0), 1, 2, 4, 8, 16, 32, 64);
        train("shock 1;reach 1;" + row(7, "saying 1 0 5 0 5 ", 1), 127, 127, 127, 127, 127, 127, 127);
        train("shock 1;reach 2;" + row(7, "saying 1 0 5 0 5 ", 3), 1, 2, 4, 8, 16, 32, 64);
        train("shock 1;reach 9;saying 0 0 5 0 5 0;saying 0 0 5 0 5 9;saying 0 0 5 0 5 19;", 3, 3, 4);
        train("shock 1;reach 0;saying 0 0 5 0 5 4;saying 0 0 4 0 5 4;saying 0 0 5 0 5 5;", 1, 3, 4);
        // what is above its cork needs no shock, as far as it may be
        train("shock 0;reach 0;saying 0 0 2 0 1 0;saying 0 0 1 0 1 20;saying 0 0 30 0 1 20;", 5, 7, 5);
        train("shock 9;reach 0;saying 0 0 0 0 8 3;saying 0 0 0 0 9 3;", 1, 3);
        T.says("NONE: there is none such (of either).");
        CorkedTalk x = Teller.cellar(CALM_SEVEN);
        for (int s : new int[] {-1, -2, 7, 8, MIN, MAX}) {
            T.due("train(0, " + s + ")", NONE, x.train(0, s));
            T.due("life(0, " + s + ")", NONE, x.life(0, s));
        }
        for (int no : NO_NUMBERS) {
            T.due("train(" + no + ", 0)", NONE, x.train(no, 0));
            T.due("life(" + no + ", 0)", NONE, x.life(no, 0));
        }
        T.due("no sayings: train(0, 0)", NONE, Teller.cellar("").train(0, 0));
        Teller.tell(x, 0, NONE, "shock 1;reach 0;saying 0 0 5 0 5 0;saying 0 0 5 0 5 0;saying 0 0 5 0 5 0;");
        T.due("of a cellar of three beside each other", 7, x.train(1, 0));
        T.due("of the first cellar again", 1, x.train(0, 0));
        Teller.tell(x, 0, 1, "shock 1;reach 0;saying 0 0 5 0 5 0;saying 0 0 5 0 5 1;saying 0 0 5 0 5 2;");
        T.due("of another in its place", 1, x.train(1, 0));
        T.due("of another in its place", 4, x.train(1, 2));
        T.due("no sayings: life(0, 0)", NONE, Teller.cellar("").life(0, 0));
    }

    private static void laying(String cellar, int number, int... row) {
        CorkedTalk x = Teller.cellar(cellar);
        T.due("laying(0, NONE) of " + cellar, number, x.laying(0, NONE));
        for (int k = 0; k < row.length; k++) {
            T.due("laying(0, " + k + ") of " + cellar, row[k], x.laying(0, k));
        }
        for (int k : new int[] {row.length, row.length + 1, 7, -2, MIN, MAX}) {
            T.due("laying(0, " + k + ") of " + cellar, NONE, x.laying(0, k));
        }
    }

    private static void laying() {
        T.says("LAYING: the number (k NONE), or the PLACE of SAYING k. NONE: there is none such (of either).");
        laying("", 0);
        laying("saying 0 0 0 0 40 20;", 1, 20);
        laying("saying 0 0 30 0 1 0;", 1, 0);
        laying("shock 0;" + row(7, "saying 0 0 0 0 40 ", 0), 1, 0, 0, 0, 0, 0, 0, 0);
        laying("shock 1;reach 0;" + row(7, "saying 0 0 5 0 5 ", 0), 7, 0, 0, 0, 0, 0, 0, 0);
        laying("shock 0;" + row(7, "saying 0 0 30 0 1 ", 3), 7, 0, 3, 6, 9, 12, 15, 18);
        CorkedTalk x = Teller.cellar(CALM_SEVEN);
        for (int no : NO_NUMBERS) {
            T.due("laying(" + no + ", NONE)", NONE, x.laying(no, NONE));
            T.due("laying(" + no + ", 0)", NONE, x.laying(no, 0));
        }
        T.due("the seventh", 18, x.laying(0, 6));
        Teller.tell(x, 0, NONE, "saying 0 0 0 0 40 9;saying 0 0 0 0 40 4;");
        T.due("of the other cellar", 4, x.laying(1, 0));
        T.due("of the first again", 0, x.laying(0, 0));
        Teller.tell(x, 0, 0, "saying 0 0 0 0 40 11;");
        T.due("of another in its place", 11, x.laying(0, 0));
        T.due("of another in its place", NONE, x.laying(0, 1));
        T.due("the cellar is as it was told", 9, x.cellar(1, 60));
    }

    private static void layingRows() {
        T.says("so that the greatest number that is in any TRAIN is least: that number; the first row by numbers: the PLACE of each SAYING");
        String calm = "saying 0 0 0 0 40 ";
        laying("shock 0;" + calm + "20;" + calm + "0;" + calm + "5;" + calm + "5;" + calm + "3;" + calm + "20;" + calm + "1;",
            1, 0, 1, 3, 5, 5, 20, 20);
        // 0 and 1 go by one shock, 2 takes whichever is beside it: it is two in any case
        laying("shock 9;reach 1;saying 0 0 1 0 1 0;saying 0 0 1 0 1 1;saying 0 0 0 0 40 5;", 2, 0, 1, 5);
        laying("shock 2;reach 1;saying 0 0 1 0 1 0;saying 0 0 1 0 1 1;saying 0 0 0 0 1 20;saying 0 0 0 0 40 20;", 2, 0, 1, 20, 20);
        // 0 goes by one shock, so it is laid alone, though a lesser place is free; 3 goes by two
        laying("shock 1;reach 0;saying 0 0 5 0 5 0;" + calm + "0;" + calm + "0;saying 0 0 4 0 5 1;", 1, 1, 0, 0, 0);
        laying("shock 1;reach 0;saying 0 0 5 0 5 0;saying 0 0 5 0 5 0;" + calm + "0;" + calm + "0;" + calm + "0;" + calm + "1;" + calm + "2;",
            1, 1, 2, 0, 0, 0, 0, 0);
        // 0 .. 3 go by one shock: at most one of them beside others, two together, or one alone
        laying("shock 9;reach 0;" + "saying 0 0 1 0 1 0;saying 0 0 1 0 1 0;saying 0 0 1 0 1 0;saying 0 0 1 0 1 1;" + calm + "1;" + calm
            + "2;" + calm + "3;", 2, 0, 1, 1, 2, 0, 0, 3);
        // as far from each other as two places are from the third
        laying("shock 9;reach 9;saying 0 0 1 0 1 10;saying 0 0 1 0 1 0;saying 0 0 1 0 1 20;", 1, 0, 10, 20);
        laying("shock 9;reach 9;saying 0 0 1 0 1 9;saying 0 0 1 0 1 0;saying 0 0 1 0 1 20;", 2, 0, 9, 20);
    }

    private static void life() {
        T.says("LIFE of a SAYING: the first year, 1 .. 50, in which it would BURST, if it was alone (none: none).");
        int[][] due = {{0, 0, 1, NONE}, {1, 0, 1, NONE}, {2, 0, 1, 1}, {30, 0, 1, 1}, {30, 0, 30, NONE}, {30, 0, 40, NONE}, {0, 1, 1, 2},
            {1, 1, 1, 1}, {0, 1, 40, 41}, {1, 1, 40, 40}, {0, 5, 40, 9}, {0, 5, 39, 8}, {0, 4, 40, 11}, {30, 1, 30, 1}, {30, 5, 1, 1}, {0, 2, 40, 21}};
        for (int[] d : due) {
            String one = "saying 0 0 " + d[0] + " " + d[1] + " " + d[2] + " 0;";
            T.due("life of " + one, d[3], Teller.cellar(one).life(0, 0));
            // what sets it off does not count
            CorkedTalk x = Teller.cellar("shock 9;reach 9;" + "saying 0 0 30 0 1 0;".repeat(6) + one);
            T.due("life of " + one + " with others", d[3], x.life(0, 6));
        }
    }

    // ---- promises 13 to 15

    private static void plan(String cellar, int n, int sum, int... row) {
        CorkedTalk x = Teller.cellar(cellar);
        T.due("plan(0, " + n + ", NONE) of " + cellar, sum, x.plan(0, n, NONE));
        for (int k = 0; k < n; k++) {
            T.due("plan(0, " + n + ", " + k + ") of " + cellar, k < row.length ? row[k] : 7, x.plan(0, n, k));
        }
        for (int k : new int[] {n, n + 1, 10, -2, MIN, MAX}) {
            T.due("plan(0, " + n + ", " + k + ")", NONE, x.plan(0, n, k));
        }
    }

    private static void plan() {
        T.says("PLAN of n: how much (k NONE), or which is opened in year k. NONE: not so many years, another n, or there is none such.");
        int[] all = {0, 1, 2, 3, 4, 5, 6};
        for (int n = 0; n <= 10; n++) {
            plan(CALM_SEVEN, n, Math.min(n, 7), all);
            plan("", n, 0);
            plan("saying 0 0 0 0 40 0;", n, 0, 0);
            plan("saying 30 5 0 0 40 0;", n, n > 0 ? 30 : 0, 0);
        }
        CorkedTalk x = Teller.cellar(CALM_SEVEN);
        for (int n : new int[] {-1, -2, 11, 12, MIN, MAX}) {
            T.due("plan(0, " + n + ", NONE)", NONE, x.plan(0, n, NONE));
            T.due("plan(0, " + n + ", 0)", NONE, x.plan(0, n, 0));
        }
        for (int no : NO_NUMBERS) {
            T.due("plan(" + no + ", 1, NONE)", NONE, x.plan(no, 1, NONE));
            T.due("plan(" + no + ", 1, 0)", NONE, x.plan(no, 1, 0));
        }
        T.says("its WIT of then (less by FADE for each year gone by, 0 at least): the most that all are together");
        plan("saying 4 5 0 0 40 0;saying 9 0 0 0 40 0;", 2, 13, 0, 1);
        plan("saying 4 0 0 0 40 0;saying 4 5 0 0 40 0;", 3, 8, 1, 0);
        plan("saying 5 5 0 0 40 0;saying 5 5 0 0 40 0;", 2, 5, 0, 1);
        plan("saying 6 5 0 0 40 0;saying 6 5 0 0 40 0;saying 6 5 0 0 40 0;", 3, 7, 0, 1, 2);
        plan("saying 30 5 0 0 40 0;".repeat(7), 10, 30 + 25 + 20 + 15 + 10 + 5, 0, 1, 2, 3, 4, 5, 6);
        plan("saying 30 5 0 0 40 0;".repeat(6) + "saying 1 0 0 0 40 0;", 10, 30 + 25 + 20 + 15 + 10 + 5 + 1, 0, 1, 2, 3, 4, 5, 6);
        plan("saying 1 0 0 0 40 0;" + "saying 30 5 0 0 40 0;".repeat(6), 7, 106, 1, 2, 3, 4, 5, 6, 0);
    }

    private static void planAndLife() {
        T.says("one SAYING may be opened that has not been, nor has come to its LIFE by that year");
        // lives of 1, 2, .. 7: the last year for each is the one ahead of it
        StringBuilder seven = new StringBuilder();
        for (int s = 0; s < 7; s++) {
            seven.append("saying 1 0 0 5 ").append(4 + 5 * s).append(" 0;");
        }
        plan(seven.toString(), 10, 7, 0, 1, 2, 3, 4, 5, 6);
        plan("saying 1 0 30 0 1 0;".repeat(7), 10, 1, 0);
        plan("saying 1 0 0 5 9 0;".repeat(7), 10, 2, 0, 1);
        plan("saying 5 0 0 0 40 0;saying 5 0 0 5 4 0;", 2, 10, 1, 0);
        plan("saying 5 0 0 5 9 0;saying 5 0 0 5 4 0;", 3, 10, 1, 0);
        plan("saying 1 0 0 5 4 0;saying 9 0 0 5 4 0;", 10, 9, 1);
        plan("saying 1 0 0 1 9 0;", 10, 1, 0);
        plan("saying 9 0 0 1 8 0;saying 9 0 0 1 8 0;saying 9 0 0 0 40 0;", 10, 27, 0, 1, 2);
    }

    private static void talk(String cellar, int... row) {
        CorkedTalk x = Teller.cellar(cellar);
        T.due("talk(0, NONE) of " + cellar, row.length, x.talk(0, NONE));
        for (int k = 0; k < row.length; k++) {
            T.due("talk(0, " + k + ") of " + cellar, row[k], x.talk(0, k));
        }
        for (int k : new int[] {row.length, row.length + 1, 7, 8, -2, MIN, MAX}) {
            T.due("talk(0, " + k + ") of " + cellar, NONE, x.talk(0, k));
        }
    }

    private static void talk() {
        T.says("TALK: the longest row of unlike SAYINGS each of which ANSWERS the one ahead: how many; the first row by numbers: the k-th.");
        talk("");
        talk("saying 0 0 0 0 1 0;", 0);
        talk(CALM_SEVEN, 0);
        talk(CALM_SEVEN + answers(7, -1, false), 0, 1, 2, 3, 4, 5, 6);
        talk(CALM_SEVEN + answers(7, 1, false), 6, 5, 4, 3, 2, 1, 0);
        talk(CALM_SEVEN + RING_OF_SEVEN, 0, 6, 5, 4, 3, 2, 1);
        talk(CALM_SEVEN + answers(7, 1, false) + answers(7, -1, false), 0, 1, 2, 3, 4, 5, 6);
        talk(CALM_SEVEN + "answers 6 5;answers 5 6;", 5, 6);
        talk(CALM_SEVEN + "answers 1 6;answers 2 6;", 6, 1);
        talk(CALM_SEVEN + "answers 1 0;answers 5 4;answers 6 5;", 4, 5, 6);
        T.says("TALK: how many (k NONE), or the k-th. NONE: not so many, or there is none such.");
        CorkedTalk x = Teller.cellar(CALM_SEVEN);
        for (int no : NO_NUMBERS) {
            T.due("talk(" + no + ", NONE)", NONE, x.talk(no, NONE));
            T.due("talk(" + no + ", 0)", NONE, x.talk(no, 0));
            T.due("dinner(" + no + ", NONE)", NONE, x.dinner(no, NONE));
            T.due("dinner(" + no + ", 0)", NONE, x.dinner(no, 0));
        }
    }

    private static void dinner(String cellar, int sum, int... row) {
        CorkedTalk x = Teller.cellar(cellar);
        T.due("dinner(0, NONE) of " + cellar, sum, x.dinner(0, NONE));
        for (int k = 0; k < row.length; k++) {
            T.due("dinner(0, " + k + ") of " + cellar, row[k], x.dinner(0, k));
        }
        for (int k : new int[] {row.length, row.length + 1, 7, 8, -2, MIN, MAX}) {
            T.due("dinner(0, " + k + ") of " + cellar, NONE, x.dinner(0, k));
        }
    }

    private static void dinner() {
        T.says("DINNER: all SAYINGS in a row: WIT of each, once more if it ANSWERS the one ahead: the most together; the first row by numbers: the k-th.");
        dinner("", 0);
        dinner("saying 30 0 0 0 1 0;", 30, 0);
        dinner(CALM_SEVEN, 7, 0, 1, 2, 3, 4, 5, 6);
        dinner(wits(0, 0, 0) + answers(3, 1, false), 0, 0, 1, 2);
        dinner(wits(30, 30, 30, 30, 30, 30, 30) + answers(7, -1, true), 390, 0, 1, 2, 3, 4, 5, 6);
        dinner(wits(30, 30, 30, 1, 30, 30, 30) + answers(7, -1, true), 361, 3, 4, 5, 6, 0, 1, 2);
        dinner(wits(30, 30, 30, 30, 30, 30, 30) + answers(7, 1, false), 390, 6, 5, 4, 3, 2, 1, 0);
        // not the one behind it, and not one further ahead
        dinner(wits(1, 1, 5) + "answers 2 0;", 12, 0, 2, 1);
        dinner(wits(5, 1, 1) + "answers 0 2;", 12, 1, 2, 0);
        dinner(wits(5, 6) + "answers 0 1;answers 1 0;", 17, 0, 1);
        dinner(wits(6, 5) + "answers 0 1;answers 1 0;", 17, 1, 0);
    }

    // ---- promises 16 to 18

    private static void wires() {
        T.says("WIRES of n, 0 .. 20: the fewest SAYINGS that are to be WIRED at first so that nothing BURSTS in n years (year, n times)");
        CorkedTalk one = Teller.cellar("saying 0 0 0 1 10 0;");
        CorkedTalk seven = Teller.cellar("saying 0 0 2 0 1 0;".repeat(7));
        CorkedTalk last = Teller.cellar("saying 0 0 0 0 1 0;".repeat(6) + "saying 0 0 6 0 1 0;");
        CorkedTalk wild = Teller.cellar("saying 0 0 7 0 1 0;");
        CorkedTalk rising = Teller.cellar("shock 9;reach 9;saying 0 0 0 1 20 0;saying 0 0 0 1 19 0;saying 0 0 0 1 16 0;saying 0 0 0 1 15 0;");
        CorkedTalk empty = Teller.cellar("");
        for (int n = 0; n <= 20; n++) {
            T.due("wires(0, " + n + ", true)", n <= 10 ? 0 : n <= 15 ? 1 : NONE, one.wires(0, n, true));
            T.due("wires(0, " + n + ", false)", n <= 10 ? 0 : n <= 15 ? 1 : NONE, one.wires(0, n, false));
            T.due("seven: wires(0, " + n + ", true)", n == 0 ? 0 : 127, seven.wires(0, n, true));
            T.due("seven: wires(0, " + n + ", false)", n == 0 ? 0 : 7, seven.wires(0, n, false));
            T.due("the last: wires(0, " + n + ", true)", n == 0 ? 0 : 64, last.wires(0, n, true));
            T.due("the last: wires(0, " + n + ", false)", n == 0 ? 0 : 1, last.wires(0, n, false));
            T.due("no wire is enough: wires(0, " + n + ", true)", n == 0 ? 0 : NONE, wild.wires(0, n, true));
            T.due("no wire is enough: wires(0, " + n + ", false)", n == 0 ? 0 : NONE, wild.wires(0, n, false));
            T.due("rising: wires(0, " + n + ", true)", n <= 15 ? 0 : n == 16 ? 8 : n <= 19 ? 12 : 14, rising.wires(0, n, true));
            T.due("rising: wires(0, " + n + ", false)", n <= 15 ? 0 : n == 16 ? 1 : n <= 19 ? 2 : 3, rising.wires(0, n, false));
            T.due("no sayings: wires(0, " + n + ", true)", 0, empty.wires(0, n, true));
        }
        T.says("NONE: by none, another n, or there is none such.");
        for (int n : new int[] {-1, -2, 21, 22, MIN, MAX}) {
            T.due("wires(0, " + n + ", true)", NONE, empty.wires(0, n, true));
            T.due("wires(0, " + n + ", false)", NONE, empty.wires(0, n, false));
        }
        for (int no : NO_NUMBERS) {
            T.due("wires(" + no + ", 0, true)", NONE, empty.wires(no, 0, true));
            T.due("wires(" + no + ", 0, false)", NONE, empty.wires(no, 0, false));
        }
    }

    private static void duel(String cellar, int n, int more, int first) {
        CorkedTalk x = Teller.cellar(cellar);
        T.due("duel(0, " + n + ", false) of " + cellar, more, x.duel(0, n, false));
        T.due("duel(0, " + n + ", true) of " + cellar, first, x.duel(0, n, true));
    }

    private static void duel() {
        T.says("DUEL of n: how much, or (first) what is opened first (NONE: n is 0). -999: another n, or there is none such.");
        int[] more = {0, 30, 10, 20, 15, 16};
        for (int n = 0; n <= 5; n++) {
            duel(wits(30, 20, 10, 5, 1, 0, 0), n, more[n], n == 0 ? NONE : 0);
            duel(wits(0, 0, 1, 5, 10, 20, 30), n, more[n], n == 0 ? NONE : 6);
            duel(wits(30, 30, 30, 30, 30, 30, 30), n, n % 2 == 0 ? 0 : 30, n == 0 ? NONE : 0);
            duel("", n, 0, n == 0 ? NONE : 7);
            duel(wits(0), n, 0, n == 0 ? NONE : 0);
            duel(wits(9), n, n == 0 ? 0 : 9, n == 0 ? NONE : 0);
        }
        CorkedTalk x = Teller.cellar(CALM_SEVEN);
        for (int n : new int[] {-1, -2, 6, 7, MIN, MAX}) {
            T.due("duel(0, " + n + ", false)", -999, x.duel(0, n, false));
            T.due("duel(0, " + n + ", true)", -999, x.duel(0, n, true));
        }
        for (int no : NO_NUMBERS) {
            T.due("duel(" + no + ", 0, false)", -999, x.duel(no, 0, false));
            T.due("duel(" + no + ", 1, true)", -999, x.duel(no, 1, true));
        }
    }

    private static void duelAnswers() {
        T.says("and have its WIT, once more if it ANSWERS the one that was opened last (by whomever)");
        // who opens one of the two gives the other one double
        String both = wits(5, 7) + "answers 0 1;answers 1 0;";
        duel(both, 1, 7, 1);
        duel(both, 2, 7 - 10, 1);
        duel(wits(30, 30) + "answers 0 1;answers 1 0;", 2, -30, 0);
        // only the one that was opened last: 2 answers 0, but 1 was opened behind it
        duel(wits(1, 9, 4) + "answers 2 0;", 3, 9 - 4 + 1, 1);
        // 0 now is 2; then 1 is 12 and 2 is 12; by nothing 0 is still the last, and 1 is 12, 2 is 12
        duel(wits(2, 6, 6) + "answers 1 0;answers 1 2;answers 2 1;", 4, 2, 0);
        T.says("what the first opens first, the least that is best (7: nothing)");
        // nothing first, so that the second must give the other one double
        duel(both, 3, 10 - 7, 7);
        duel(both, 5, 10 - 7, 7);
        duel(wits(4, 4, 4), 1, 4, 0);
        duel(wits(0, 4, 4), 1, 4, 1);
        duel(wits(0, 0, 0, 0, 0, 0, 4), 1, 4, 6);
    }

    private static void hold(CorkedTalk x, int p, int y, int n, long some, long of) {
        String call = "hold(0, " + p + ", " + y + ", " + n + ", ";
        T.due(call + "false)", some, x.hold(0, p, y, n, false));
        T.due(call + "true)", of, x.hold(0, p, y, n, true));
    }

    private static void hold() {
        T.says("how likely n or more SAYINGS hold y years, a fraction in least terms");
        for (int sayings = 0; sayings <= 7; sayings++) {
            CorkedTalk x = Teller.cellar("saying 0 0 30 5 1 0;".repeat(sayings));
            for (int n = 0; n <= 7; n++) {
                int all = n <= sayings ? 1 : 0;
                int none = n == 0 ? 1 : 0;
                for (int p = 0; p <= 10; p++) {
                    hold(x, p, 0, n, all, 1);
                }
                for (int y = 1; y <= 2; y++) {
                    hold(x, 10, y, n, all, 1);
                    hold(x, 0, y, n, none, 1);
                }
            }
            hold(x, 5, 1, sayings, 1, 1L << sayings);
            hold(x, 5, 2, sayings, 1, 1L << 2 * sayings);
            for (int p = 0; p <= 10; p++) {
                hold(x, p, 2, 0, 1, 1);
            }
        }
        CorkedTalk seven = Teller.cellar(CALM_SEVEN);
        hold(seven, 5, 1, 4, 1, 2);
        hold(seven, 5, 2, 1, 14197, 16384);
        hold(seven, 9, 2, 7, 22876792454961L, 100000000000000L);
        hold(seven, 1, 2, 7, 1, 100000000000000L);
        // 1 - 0.99 to the power of 7, and 1 - 0.19 to the power of 7
        hold(seven, 1, 2, 1, 100000000000000L - 93206534790699L, 100000000000000L);
        hold(seven, 9, 2, 1, 100000000000000L - 893871739L, 100000000000000L);
    }

    private static void holdNumbers() {
        T.says("HOLD of p, 0 .. 10, y, 0 .. 2, n, 0 .. 7");
        CorkedTalk x = Teller.cellar(CALM_SEVEN);
        for (int other : new int[] {-1, -2, MIN, MAX}) {
            hold(x, other, 1, 1, NONE, NONE);
            hold(x, 1, other, 1, NONE, NONE);
            hold(x, 1, 1, other, NONE, NONE);
        }
        hold(x, 11, 1, 1, NONE, NONE);
        hold(x, 1, 3, 1, NONE, NONE);
        hold(x, 1, 1, 8, NONE, NONE);
        for (int no : NO_NUMBERS) {
            T.due("hold(" + no + ", 1, 1, 1, false)", NONE, x.hold(no, 1, 1, 1, false));
            T.due("hold(" + no + ", 1, 1, 1, true)", NONE, x.hold(no, 1, 1, 1, true));
        }
    }

    // ---- promise 22

    private static void wit(String cellar, int what, int want) {
        T.due("wit(0, " + what + ") of " + cellar, want, Teller.cellar(cellar).wit(0, what));
    }

    private static void wittiest() {
        T.says("WITTIEST: the SAYING of most WIT, of several the least (none: none); WIT of all together.");
        wit("", 0, NONE);
        wit("", 1, 0);
        wit(wits(0), 0, 0);
        wit(wits(0), 1, 0);
        wit(wits(0, 0, 0, 0, 0, 0, 1), 0, 6);
        wit(wits(3, 9, 9, 3), 0, 1);
        wit(wits(30, 30, 30, 30, 30, 30, 30), 0, 0);
        wit(wits(30, 30, 30, 30, 30, 30, 30), 1, 210);
        wit("saying 9 5 0 0 1 0;saying 4 4 0 0 1 0;", 1, 13);
        T.says("LIVELIEST: the one of most FIZZ less CORK, of several the least (none: none).");
        wit("", 2, NONE);
        wit("saying 0 0 0 0 40 0;", 2, 0);
        wit("saying 0 0 0 0 40 0;".repeat(6) + "saying 0 0 0 0 39 0;", 2, 6);
        wit("saying 0 0 0 0 40 0;saying 0 0 1 0 2 0;saying 0 0 29 0 30 0;", 2, 1);
        wit("saying 0 0 30 0 40 0;saying 0 0 30 0 1 0;saying 0 0 29 0 1 0;", 2, 1);
    }

    private static void ruin() {
        T.says("RUIN: the SAYING whose TRAIN has most WIT together, of several the least (none: none); how much.");
        wit("", 3, NONE);
        wit("", 4, 0);
        wit(wits(0), 3, 0);
        wit(wits(0), 4, 0);
        wit("shock 0;" + wits(0, 0, 0, 0, 0, 0, 1), 3, 6);
        wit("shock 0;" + wits(0, 0, 0, 0, 0, 0, 1), 4, 1);
        wit("shock 0;" + wits(7, 9, 9), 3, 1);
        wit("shock 0;" + wits(7, 9, 9), 4, 9);
        // 2 takes 1, which is not the wittiest; both together are
        String three = "shock 9;reach 0;saying 9 0 0 0 40 0;saying 5 0 0 0 1 1;saying 5 0 0 0 40 1;";
        wit(three, 3, 2);
        wit(three, 4, 10);
        wit("shock 9;" + "saying 30 0 1 0 1 0;".repeat(7), 3, 0);
        wit("shock 9;" + "saying 30 0 1 0 1 0;".repeat(7), 4, 210);
    }

    private static void close() {
        T.says("CLOSE: the two unlike SAYINGS (10 times the lesser, and the other one) the PLACES of which are nearest, of several the least (none: none); how far.");
        String calm = "saying 0 0 0 0 40 ";
        wit("", 5, NONE);
        wit("", 6, 0);
        wit(calm + "5;", 5, NONE);
        wit(calm + "5;", 6, 0);
        wit(calm + "0;" + calm + "20;", 5, 1);
        wit(calm + "0;" + calm + "20;", 6, 20);
        wit(calm + "20;" + calm + "0;", 6, 20);
        wit(calm + "5;" + calm + "5;", 6, 0);
        wit(CALM_SEVEN, 5, 1);
        wit(CALM_SEVEN, 6, 3);
        wit(row(6, calm, 3) + calm + "15;", 5, 56);
        wit(row(6, calm, 3) + calm + "15;", 6, 0);
        wit(row(6, calm, 4) + calm + "1;", 5, 6);
        wit(row(6, calm, 4) + calm + "1;", 6, 1);
        wit(row(6, calm, 4) + calm + "17;", 5, 46);
        wit(row(6, calm, 4) + calm + "17;", 6, 1);
        wit(row(6, calm, 4) + calm + "6;", 5, 16);
        wit(row(6, calm, 4) + calm + "6;", 6, 2);
    }

    private static void rows(String cellar, int many, int largest) {
        wit(cellar, 7, many);
        wit(cellar, 8, largest);
    }

    private static void rows() {
        T.says("ROWS: SAYINGS any two of which are joined by others, one no more than REACH from the next, are of one: how many; how many the largest has.");
        String calm = "saying 0 0 0 0 40 ";
        rows("", 0, 0);
        rows("reach 0;" + calm + "5;", 1, 1);
        rows("reach 2;" + CALM_SEVEN, 7, 1);
        rows("reach 3;" + CALM_SEVEN, 1, 7);
        rows("reach 0;" + row(7, calm, 0), 1, 7);
        rows("reach 0;" + row(7, calm, 1), 7, 1);
        rows("reach 9;" + calm + "0;" + calm + "9;" + calm + "18;", 1, 3);
        rows("reach 9;" + calm + "0;" + calm + "10;" + calm + "20;", 3, 1);
        // the last joins the first two, and the way goes back and forth
        rows("reach 1;" + calm + "6;" + calm + "0;" + calm + "5;" + calm + "1;" + calm + "4;" + calm + "2;" + calm + "3;", 1, 7);
        rows("reach 1;" + calm + "6;" + calm + "0;" + calm + "5;" + calm + "1;" + calm + "4;" + calm + "2;" + calm + "8;", 3, 3);
        rows("reach 1;" + calm + "0;" + calm + "9;" + calm + "10;", 2, 2);
        rows("reach 1;" + calm + "0;" + calm + "1;" + calm + "10;", 2, 2);
    }

    private static void cut(String cellar, int many, int bits) {
        wit(cellar, 9, many);
        wit(cellar, 10, bits);
    }

    private static void cut() {
        T.says("CUT: the fewest SAYINGS that are to be taken away so that no TRAIN of any of the others has more than itself: how many; which (bits), of several the least.");
        cut("", 0, 0);
        cut("saying 0 0 30 0 1 0;", 0, 0);
        cut("shock 0;" + CALM_SEVEN, 0, 0);
        cut("shock 1;reach 0;" + row(7, "saying 0 0 5 0 5 ", 0), 6, 63);
        cut("shock 1;reach 1;" + row(7, "saying 0 0 5 0 5 ", 1), 3, 42);
        cut("shock 1;reach 2;" + row(7, "saying 0 0 5 0 5 ", 3), 0, 0);
        // by one shock none goes, and nothing else comes
        cut("shock 1;reach 0;" + row(7, "saying 0 0 4 0 5 ", 0), 0, 0);
        cut("shock 9;reach 0;saying 0 0 1 0 1 0;saying 0 0 0 0 40 0;", 1, 1);
        cut("shock 9;reach 0;saying 0 0 0 0 40 0;saying 0 0 1 0 1 0;", 1, 1);
        cut("shock 9;reach 0;saying 0 0 0 0 40 0;saying 0 0 0 0 40 0;saying 0 0 1 0 1 0;", 1, 4);
        // what is above its cork is in any train, as long as it is there
        cut("shock 0;saying 0 0 0 0 1 0;saying 0 0 9 0 1 20;", 1, 1);
        cut("shock 0;saying 0 0 0 0 1 0;saying 0 0 0 0 1 0;saying 0 0 9 0 1 20;", 1, 4);
        cut("shock 0;" + row(7, "saying 0 0 30 0 1 ", 3), 6, 63);
    }

    private static void good() {
        T.says("GOOD: the year, 0 .. 50, by which WIT of all together is less than half of what it is in year 0 first (none: none).");
        wit("", 11, NONE);
        wit(wits(0), 11, NONE);
        wit(wits(30), 11, NONE);
        wit("saying 1 5 0 0 1 0;", 11, 1);
        wit("saying 30 1 0 0 1 0;", 11, 16);
        wit("saying 30 5 0 0 1 0;", 11, 4);
        wit("saying 2 1 0 0 1 0;", 11, 2);
        wit("saying 30 1 0 0 1 0;saying 1 0 0 0 1 0;", 11, 16);
        wit("saying 30 0 0 0 1 0;saying 30 5 0 0 1 0;", 11, NONE);
        wit("saying 30 0 0 0 1 0;saying 30 1 0 0 1 0;saying 1 1 0 0 1 0;", 11, 30);
        wit("saying 30 1 0 0 1 0;".repeat(7), 11, 16);
    }

    private static void earliestAndLasting() {
        T.says("EARLIEST: the SAYING of the least LIFE, of several the least (none: none).");
        String never = "saying 0 0 1 0 1 0;";
        wit("", 17, NONE);
        wit(never, 17, NONE);
        wit(never.repeat(7), 17, NONE);
        wit(never.repeat(6) + "saying 0 0 0 1 40 0;", 17, 6);
        wit(never + "saying 0 0 0 1 5 0;saying 0 0 0 1 5 0;", 17, 1);
        wit("saying 0 0 0 1 6 0;saying 0 0 0 1 5 0;saying 0 0 0 1 6 0;", 17, 1);
        wit("saying 0 0 9 0 1 0;saying 0 0 0 5 1 0;", 17, 0);
        T.says("LASTING: SAYINGS (bits) that have no LIFE.");
        wit("", 18, 0);
        wit(never.repeat(7), 18, 127);
        wit("saying 0 0 2 0 1 0;".repeat(7), 18, 0);
        wit(never.repeat(6) + "saying 0 0 0 1 40 0;", 18, 63);
        wit("saying 0 0 0 1 40 0;" + never.repeat(6), 18, 126);
    }

    private static void muteAndRing() {
        T.says("MUTE: SAYINGS (bits) that ANSWER nothing, and that nothing ANSWERS.");
        wit("", 12, 0);
        wit(CALM_SEVEN, 12, 127);
        wit(CALM_SEVEN + "answers 6 0;", 12, 62);
        wit(CALM_SEVEN + "answers 0 6;", 12, 62);
        wit(CALM_SEVEN + "answers 3 4;answers 4 3;", 12, 103);
        wit(CALM_SEVEN + RING_OF_SEVEN, 12, 0);
        wit(CALM_SEVEN + answers(7, 1, false), 12, 0);
        T.says("RING: the fewest SAYINGS, two or more, of which the first ANSWERS the second, and so on, the last one the first (none: none).");
        wit("", 13, NONE);
        wit(CALM_SEVEN, 13, NONE);
        wit(CALM_SEVEN + answers(7, 1, false), 13, NONE);
        wit(CALM_SEVEN + answers(7, -1, false), 13, NONE);
        wit(CALM_SEVEN + RING_OF_SEVEN, 13, 7);
        wit(CALM_SEVEN + answers(7, -1, true), 13, 7);
        wit(CALM_SEVEN + "answers 5 6;answers 6 5;", 13, 2);
        wit(CALM_SEVEN + "answers 0 1;answers 1 0;", 13, 2);
        wit(CALM_SEVEN + RING_OF_SEVEN + "answers 4 6;answers 6 4;", 13, 2);
        wit(CALM_SEVEN + "answers 0 1;answers 1 2;answers 2 3;answers 3 0;answers 4 5;answers 5 6;answers 6 4;", 13, 3);
        wit(CALM_SEVEN + "answers 6 5;answers 5 4;answers 4 6;answers 3 2;answers 2 1;answers 1 0;answers 0 3;", 13, 3);
        wit(wits(1, 1) + answers(2, 1, true), 13, 2);
        wit(CALM_SEVEN + answers(7, 1, false) + answers(7, 2, false) + answers(7, 3, false), 13, NONE);
    }

    private static void calm(String cellar, int years, int from) {
        wit(cellar, 14, years);
        wit(cellar, 15, from);
    }

    private static void calm() {
        T.says("CALM: the longest row of years, 1 .. 50, in which nothing BURSTS so: how many; where it begins, the first of several (none).");
        calm("", 50, 1);
        calm(CALM_SEVEN, 50, 1);
        calm("saying 0 0 9 0 1 0;", 49, 2);
        calm("saying 0 0 0 1 40 0;", 40, 1);
        calm("saying 0 0 0 1 24 0;", 25, 26);
        calm("saying 0 0 0 1 25 0;", 25, 1);
        calm("shock 0;saying 0 0 0 1 16 0;saying 0 0 0 1 33 0;", 16, 1);
        calm("shock 0;saying 0 0 0 1 15 0;saying 0 0 0 1 33 0;", 17, 17);
        calm("shock 0;saying 0 0 0 1 16 0;saying 0 0 0 1 32 0;", 17, 34);
        // one a year from 1 to 7
        StringBuilder seven = new StringBuilder("shock 0;");
        for (int s = 0; s < 7; s++) {
            seven.append("saying 0 0 0 5 ").append(4 + 5 * s).append(" 0;");
        }
        calm(seven.toString(), 43, 8);
        // in years 6, 12, 18, 24, 30, 36, 41
        StringBuilder far = new StringBuilder("shock 0;");
        for (int cork : new int[] {5, 11, 17, 23, 29, 35, 40}) {
            far.append("saying 0 0 0 1 ").append(cork).append(" 0;");
        }
        calm(far.toString(), 9, 42);
    }

    private static void pair() {
        T.says("which, their PLACES being changed for each other, make the greatest number in any TRAIN least (less than it is), of several the least (none: none)");
        // 0 goes by itself, 1 by one shock, the others never: 2 takes 0 and 1 with it, as long as 1 is where 0 is
        String two = "reach 0;saying 4 0 9 0 5 7;saying 4 0 0 0 2 7;";
        String calm = "saying 1 1 0 0 40 ";
        wit("", 16, NONE);
        wit(wits(1), 16, NONE);
        wit(CALM_SEVEN, 16, NONE);
        wit(two, 16, NONE);
        wit(two + calm + "7;", 16, NONE);
        wit(two + calm + "8;", 16, 12);
        wit(two + calm + "8;" + calm + "9;", 16, 12);
        wit(two + row(5, calm, 1), 16, 12);
        wit(row(5, calm, 1) + two, 16, 6);
        wit("shock 1;reach 9;" + row(7, "saying 0 0 5 0 5 ", 1), 16, NONE);
        // two by two, each going by one shock: a change leaves them two by two
        wit("shock 1;reach 0;saying 0 0 5 0 5 0;saying 0 0 5 0 5 0;saying 0 0 5 0 5 4;saying 0 0 5 0 5 4;", 16, NONE);
        // 0 takes 3, and both take 2: without 2 it is two, without 3, which comes first, it is one
        wit("shock 1;reach 0;saying 0 0 0 0 40 0;saying 0 0 0 0 40 1;saying 0 0 4 0 5 0;saying 0 0 5 0 5 0;", 16, 13);
    }

    private static void wit() {
        T.says("-2: there is none such, or for another what.");
        CorkedTalk x = Teller.cellar(CALM_SEVEN);
        for (int what : new int[] {-1, -2, 19, 20, 100, MIN, MAX}) {
            T.due("wit(0, " + what + ")", -2, x.wit(0, what));
        }
        for (int no : NO_NUMBERS) {
            for (int what = 0; what < 19; what++) {
                T.due("wit(" + no + ", " + what + ")", -2, x.wit(no, what));
            }
        }
    }

    // ---- promises 23 and 25

    private static void flat() {
        T.says("FLAT of n, 0 .. 50: how many SAYINGS have no WIT in year n");
        CorkedTalk slow = Teller.cellar("saying 30 1 0 0 1 0;");
        CorkedTalk never = Teller.cellar(wits(1, 30, 0));
        CorkedTalk all = Teller.cellar("saying 5 5 0 0 1 0;".repeat(7));
        CorkedTalk burst = Teller.cellar("saying 6 5 30 0 1 0;".repeat(7));
        CorkedTalk empty = Teller.cellar("");
        for (int n = 0; n <= 50; n++) {
            T.due("flat(0, " + n + ")", n < 30 ? 0 : 1, slow.flat(0, n));
            T.due("one of three: flat(0, " + n + ")", 1, never.flat(0, n));
            T.due("seven: flat(0, " + n + ")", n < 1 ? 0 : 7, all.flat(0, n));
            T.due("as told, whatever bursts: flat(0, " + n + ")", n < 2 ? 0 : 7, burst.flat(0, n));
            T.due("no sayings: flat(0, " + n + ")", 0, empty.flat(0, n));
        }
        T.says("NONE: another n, or there is none such.");
        for (int n : new int[] {-1, -2, 51, 52, MIN, MAX}) {
            T.due("flat(0, " + n + ")", NONE, all.flat(0, n));
        }
        for (int no : NO_NUMBERS) {
            T.due("flat(" + no + ", 0)", NONE, all.flat(no, 0));
        }
    }

    private static void half(String cellar, int[] wit, int[] bits) {
        CorkedTalk x = Teller.cellar(cellar);
        for (int k = 0; k <= 7; k++) {
            T.due("half(0, " + k + ", false) of " + cellar, k < wit.length ? wit[k] : NONE, x.half(0, k, false));
            T.due("half(0, " + k + ", true) of " + cellar, k < bits.length ? bits[k] : NONE, x.half(0, k, true));
        }
        for (int k : new int[] {-1, -2, 8, 9, MIN, MAX}) {
            T.due("half(0, " + k + ", false) of " + cellar, NONE, x.half(0, k, false));
            T.due("half(0, " + k + ", true) of " + cellar, NONE, x.half(0, k, true));
        }
    }

    private static void half() {
        T.says("HALF of k, 0 .. 7: k SAYINGS of most WIT together of which none ANSWERS another one: how much; which (bits), of several the least.");
        half("", new int[] {0}, new int[] {0});
        half(wits(0), new int[] {0, 0}, new int[] {0, 1});
        half(wits(1, 2, 3, 4, 5, 6, 7), new int[] {0, 7, 13, 18, 22, 25, 27, 28}, new int[] {0, 64, 96, 112, 120, 124, 126, 127});
        half(wits(5, 5, 5, 5, 5, 5, 5), new int[] {0, 5, 10, 15, 20, 25, 30, 35}, new int[] {0, 1, 3, 7, 15, 31, 63, 127});
        half(wits(9, 9) + "answers 0 1;", new int[] {0, 9}, new int[] {0, 1});
        half(wits(9, 9) + "answers 1 0;", new int[] {0, 9}, new int[] {0, 1});
        half(wits(1, 1, 1, 1, 1, 1, 1) + RING_OF_SEVEN, new int[] {0, 1, 2, 3}, new int[] {0, 1, 5, 21});
        half(wits(1, 1, 1, 1, 1, 1, 30) + answers(7, 6, false), new int[] {0, 30, 31, 32, 33, 34, 35}, new int[] {0, 64, 66, 70, 78, 94, 126});
        // the wittiest two answer each other
        half(wits(9, 8, 1) + "answers 1 0;", new int[] {0, 9, 10}, new int[] {0, 1, 5});
        CorkedTalk x = Teller.cellar(CALM_SEVEN);
        for (int no : NO_NUMBERS) {
            T.due("half(" + no + ", 0, false)", NONE, x.half(no, 0, false));
            T.due("half(" + no + ", 0, true)", NONE, x.half(no, 0, true));
        }
    }
}
