/** The boundary cases of the tape, the texts, their faults and the images: Terms 1, promises 1 to 7, 19, 29 to 31. */
public final class BoundaryTextsTest {
    private static final int NONE = CorkedTalk.NONE;
    private static final int MIN = Integer.MIN_VALUE;
    private static final int MAX = Integer.MAX_VALUE;
    private static final int BLANKS = 538976288;
    private static final String SAYING = "saying 0 0 0 0 1 0;";
    private static final Teller T = new Teller();

    public static void main(String[] args) {
        numbersOfCellars();
        numbersOfYearsAndLogs();
        atFirst();
        counts();
        unlike();
        tapeOf600();
        bytesOfTokens();
        tokensAsLongAsTheyGo();
        numbersOfDigits();
        laterOnes();
        firstFault();
        otherFaults();
        missingSaying();
        newObject();
        feed();
        end();
        textTaken();
        textRefused();
        textWithFault();
        fault();
        cellar();
        deed();
        fact();
        count();
        image();
        again();
        calls512();
        T.finish("BoundaryTextsTest");
    }

    private interface Asked {
        int of(CorkedTalk x);
    }

    private static void fault(int sort, String text, int fault, int place) {
        CorkedTalk x = new CorkedTalk();
        String told = text.length() > 80 ? text.substring(0, 20) + ".. of " + text.length() : text;
        T.due("text(" + sort + ") of " + told, fault == 0 ? 0 : NONE, Teller.tell(x, sort, NONE, text));
        T.due("fault(0) of " + told, fault, x.fault(0));
        T.due("fault(1) of " + told, place, x.fault(1));
        T.due("count behind " + told, fault == 0 ? 1 : 0, x.count(sort));
    }

    // ---- Terms 1

    /** Every number of one or two digits where the text has #; behind it stands what makes it a whole text. */
    private static void range(int sort, String text, String behind, int low, int high, Asked asked) {
        int place = text.indexOf('#');
        for (int n = 0; n < 100; n++) {
            boolean is = n >= low && n <= high;
            String whole = text.replace("#", "" + n) + behind;
            fault(sort, whole, is ? 0 : 2, is ? NONE : place);
            if (is) {
                T.due(whole, n, asked.of(sort == 0 ? Teller.cellar(whole) : sort == 1 ? Teller.told(null, whole, null)
                    : Teller.told(null, null, whole)));
            }
        }
    }

    private static void numbersOfCellars() {
        T.says("A CELLAR has a SHOCK, 0 .. 9 (3 at first), REACH, 0 .. 9 (1 at first)");
        range(0, "shock #;", "", 0, 9, x -> x.cellar(0, 0));
        range(0, "reach #;", "", 0, 9, x -> x.cellar(0, 1));
        T.says("WIT, 0 .. 30, FADE, 0 .. 5, FIZZ, 0 .. 30, RISE, 0 .. 5, CORK, 1 .. 40, PLACE, 0 .. 20");
        range(0, "saying # 0 0 0 1 0;", "", 0, 30, x -> x.cellar(0, 10));
        range(0, "saying 0 # 0 0 1 0;", "", 0, 5, x -> x.cellar(0, 20));
        range(0, "saying 0 0 # 0 1 0;", "", 0, 30, x -> x.cellar(0, 30));
        range(0, "saying 0 0 0 # 1 0;", "", 0, 5, x -> x.cellar(0, 40));
        range(0, "saying 0 0 0 0 # 0;", "", 1, 40, x -> x.cellar(0, 50));
        range(0, "saying 0 0 0 0 1 #;", "", 0, 20, x -> x.cellar(0, 60));
        T.says("answers: a SAYING, 0 .. 6, the one that it ANSWERS");
        for (int n = 0; n < 100; n++) {
            int other = n == 0 ? 1 : 0;
            fault(0, "answers " + n + " " + other + ";" + SAYING.repeat(7), n <= 6 ? 0 : 2, n <= 6 ? NONE : 8);
            fault(0, "answers " + other + " " + n + ";" + SAYING.repeat(7), n <= 6 ? 0 : 2, n <= 6 ? NONE : 10);
        }
    }

    private static void numbersOfYearsAndLogs() {
        T.says("('open' | 'wire' | 'taint') NUMBER | 'move' NUMBER NUMBER) ';'} (a SAYING; move: a PLACE)");
        for (String word : new String[] {"open", "wire", "taint"}) {
            range(1, word + " #;", "", 0, 6, x -> x.deed(0, 0, 1));
        }
        range(1, "move # 0;", "", 0, 6, x -> x.deed(0, 0, 1));
        range(1, "move 0 #;", "", 0, 20, x -> x.deed(0, 0, 2));
        T.says("in a year, 1 .. 20, so many BURST, 0 .. 7");
        range(2, "heard # 0;", "", 1, 20, x -> x.fact(0, 0, 0));
        range(2, "heard 1 #;", "", 0, 7, x -> x.fact(0, 0, 1));
    }

    private static void atFirst() {
        T.says("SHOCK, 0 .. 9 (3 at first), REACH, 0 .. 9 (1 at first)");
        CorkedTalk x = Teller.cellar("");
        T.due("shock at first", 3, x.cellar(0, 0));
        T.due("reach at first", 1, x.cellar(0, 1));
        T.due("sayings at first", 0, x.cellar(0, 2));
        Teller.tell(x, 0, 0, "shock 9;reach 9;" + SAYING.repeat(2) + "answers 0 1;");
        T.due("in the place of another", 0, Teller.tell(x, 0, 0, SAYING.repeat(2)));
        T.due("shock of the text in its place", 3, x.cellar(0, 0));
        T.due("reach of the text in its place", 1, x.cellar(0, 1));
        T.due("answers of the text in its place", 0, x.cellar(0, 70));
    }

    private static void counts() {
        T.says("SAYINGS, at most 7, from 0 on");
        for (int n = 0; n <= 9; n++) {
            fault(0, SAYING.repeat(n), n > 7 ? 3 : 0, n > 7 ? 7 * SAYING.length() : NONE);
            T.due("sayings", n, n > 7 ? n : Teller.cellar(SAYING.repeat(n)).cellar(0, 2));
        }
        T.says("YEARS have DEEDS, at most 40, from 0 on");
        for (int n = 38; n <= 42; n++) {
            fault(1, "year;".repeat(n), n > 40 ? 3 : 0, n > 40 ? 200 : NONE);
            T.due("deeds", n, n > 40 ? n : Teller.told(null, "year;".repeat(n), null).deed(0, NONE, 0));
        }
        for (String word : new String[] {"open 0;", "wire 0;", "taint 0;", "move 0 0;"}) {
            fault(1, word.repeat(40), 0, NONE);
            fault(1, word.repeat(40) + "\n " + word, 3, 40 * word.length() + 2);
            fault(1, "year;".repeat(40) + word, 3, 200);
        }
        T.says("A LOG has FACTS, at most 8, from 0 on");
        for (int n = 0; n <= 10; n++) {
            fault(2, "heard 1 0;".repeat(n), n > 8 ? 3 : 0, n > 8 ? 80 : NONE);
            T.due("facts", n, n > 8 ? n : Teller.told(null, null, "heard 1 0;".repeat(n)).fact(0, NONE, 0));
        }
        T.says("(shock, reach), but all others, which are further ones");
        fault(0, "shock 1;reach 2;".repeat(37), 0, NONE);
        fault(0, SAYING.repeat(7) + "answers 0 1;".repeat(30), 0, NONE);
    }

    private static void unlike() {
        T.says("which SAYING ANSWERS which unlike one");
        for (int a = 0; a < 7; a++) {
            for (int b = 0; b < 7; b++) {
                String text = SAYING.repeat(7) + "answers " + a + " " + b + ";";
                fault(0, text, a == b ? 2 : 0, a == b ? text.length() - 2 : NONE);
                for (int s = 0; s < 7 && a != b; s++) {
                    T.due(text, s == a ? 1 << b : 0, Teller.cellar(text).cellar(0, 70 + s));
                }
            }
        }
        fault(0, "answers 00 0;", 2, 11);
        fault(0, "answers 0 00;", 2, 10);
        fault(0, "answers 7 7;", 2, 8);
        StringBuilder all = new StringBuilder("saying 0 0 0 0 1 0;".repeat(7));
        for (int a = 0; a < 7; a++) {
            for (int b = 0; b < 7; b++) {
                all.append(a == b ? "" : "answers" + a + " " + b + ";");
            }
        }
        T.due("a text of all answers has its room", true, all.length() <= 600);
        CorkedTalk x = Teller.cellar(all.toString());
        for (int s = 0; s < 7; s++) {
            T.due("all answer all", 127 - (1 << s), x.cellar(0, 70 + s));
        }
    }

    private static void tapeOf600() {
        T.says("THE TAPE has at most 600 bytes");
        String blanks = " ".repeat(592);
        fault(0, blanks + "shock 7;", 0, NONE);
        T.due("the last of 600 bytes is read", 7, Teller.cellar(blanks + "shock 7;").cellar(0, 0));
        fault(0, blanks + " shock 7", 1, 600);
        fault(0, blanks + "shock 7,", 1, 599);
        fault(0, blanks + "shock 77", 1, 600);
        fault(0, blanks + "shock777", 1, 597);
        fault(0, blanks + "shock7;s", 1, 599);
        fault(0, blanks + " shock17", 1, 600);
        fault(0, "\n".repeat(600), 0, NONE);
        fault(0, "a".repeat(600), 1, 0);
        fault(0, "shock " + "1".repeat(594), 1, 6);
        fault(0, " ".repeat(588) + "answers 0 1;", 4, 600);
        fault(0, "answers 0 1;" + " ".repeat(588), 4, 600);
        T.due("what was on the tape is not read beyond its end", 0, behindLongerTape("shock 1"));
        T.due("what was on the tape is not read beyond its end", 0, behindLongerTape("shock"));
    }

    /** The fault of a text whose tape had its end further on is the end's: 0, else what it is. */
    private static int behindLongerTape(String text) {
        CorkedTalk x = new CorkedTalk();
        Teller.tape(x, Teller.bytes("shock 1234;"), 0);
        x.end(text.length());
        boolean ends = x.text(0, NONE) == NONE && x.fault(0) == 1 && x.fault(1) == text.length();
        return ends ? 0 : 10 * x.fault(0) + x.fault(1);
    }

    private static void bytesOfTokens() {
        T.says("blanks (10, 32) between: words, rows of letters a .. z; NUMBERS, 1 or 2 digits; ; one byte");
        for (int b = 0; b < 256; b++) {
            boolean blank = b == 10 || b == 32;
            boolean letter = b >= 'a' && b <= 'z';
            boolean digit = b >= '0' && b <= '9';
            String inLine = "shock" + (char) b + "7;";
            if (digit) {
                fault(0, inLine, b == '0' ? 0 : 2, b == '0' ? NONE : 5);
            } else {
                fault(0, inLine, blank ? 0 : 1, blank ? NONE : letter ? 0 : 5);
            }
            fault(0, "shock 7;" + (char) b + "reach 2;", blank ? 0 : 1, blank ? NONE : 8);
            fault(1, "year" + (char) b, b == ';' ? 0 : 1, b == ';' ? NONE : blank ? 5 : letter ? 0 : 4);
            fault(2, (char) b + "", blank ? 0 : 1, blank ? NONE : 0);
        }
    }

    private static void tokensAsLongAsTheyGo() {
        T.says("TOKENS, as long as they go, blanks (10, 32) between");
        fault(0, "answers 12;", 1, 10);
        fault(0, "answers1 2;" + SAYING.repeat(3), 0, NONE);
        fault(0, "shock3;reach3;", 0, NONE);
        fault(0, "shock3reach3;", 1, 6);
        fault(0, "shockshock 3;", 1, 0);
        fault(0, "shoc k3;", 1, 0);
        fault(0, "shock 1 2;", 1, 8);
        fault(0, "shock 3 ;", 0, NONE);
        fault(0, "\n\nshock\n \n3\n;\n \n", 0, NONE);
        fault(1, "yearopen 0;", 1, 0);
        fault(1, "year;open0;move0 0;", 0, NONE);
        fault(1, "move 00;", 1, 7);
        fault(1, "yea", 1, 0);
        fault(1, "years;", 1, 0);
        fault(2, "heard1 0;", 0, NONE);
        fault(2, "heard 10;", 1, 8);
        fault(2, "heard11;", 1, 7);
    }

    private static void numbersOfDigits() {
        T.says("NUMBERS, 1 or 2 digits");
        for (int n = 0; n < 10; n++) {
            T.due("one digit", n, Teller.cellar("shock " + n + ";").cellar(0, 0));
            T.due("two digits", n, Teller.cellar("shock 0" + n + ";").cellar(0, 0));
            fault(0, "shock 00" + n + ";", 1, 6);
            fault(0, "shock " + n + "00;", 1, 6);
        }
        T.says("(a longer row of digits is no token)");
        fault(0, "shock 4294967299;", 1, 6);
        fault(0, "shock 18446744073709551619;", 1, 6);
        fault(0, "shock 3 123;", 1, 8);
        fault(1, "123;", 1, 0);
        fault(1, "year 000;", 1, 5);
        fault(2, "heard 001 0;", 1, 6);
        fault(2, "heard 1 000;", 1, 8);
    }

    private static void laterOnes() {
        T.says("Later ones strike (shock, reach)");
        CorkedTalk x = Teller.cellar("shock 1;reach 1;shock 2;reach 3;reach 0;shock 0;");
        T.due("the last shock", 0, x.cellar(0, 0));
        T.due("the last reach", 0, x.cellar(0, 1));
        T.says("but all others, which are further ones");
        CorkedTalk y = Teller.told(SAYING + "saying 1 0 0 0 1 0;answers 0 1;answers 1 0;answers 0 1;", "open 0;open 0;", "heard 1 1;heard 1 1;");
        T.due("a further saying", 2, y.cellar(0, 2));
        T.due("the first saying", 0, y.cellar(0, 10));
        T.due("the second saying", 1, y.cellar(0, 11));
        T.due("further answers", 2, y.cellar(0, 70));
        T.due("further deeds", 2, y.deed(0, NONE, 0));
        T.due("further facts", 2, y.fact(0, NONE, 0));
    }

    private static void firstFault() {
        T.says("1 the first byte or token with which no text goes on");
        fault(0, "shock x y;", 1, 6);
        fault(0, "xhock 3;", 1, 0);
        fault(0, "shocx 3;", 1, 0);
        fault(0, "shock , 3;", 1, 6);
        fault(0, "reach 1;shock", 1, 13);
        fault(0, "reach 1;shock \n", 1, 15);
        fault(0, "saying 1 1 1 1 1 1 1;", 1, 19);
        fault(0, "saying 1 1 1 1 1;", 1, 16);
        fault(0, "saying;", 1, 6);
        fault(0, "answers 1;", 1, 9);
        fault(0, "answers 1 2 3;", 1, 12);
        fault(0, "reach;", 1, 5);
        fault(0, "reach 1 1;", 1, 8);
        fault(1, "year 1;", 1, 5);
        fault(1, "wire;", 1, 4);
        fault(1, "taint 1 1;", 1, 8);
        fault(1, "move 1 1 1;", 1, 9);
        fault(2, "heard;", 1, 5);
        fault(2, "heard 1 1", 1, 9);
        String[] words = {"shock 1;", "reach 1;", "saying 1 1 1 1 1 1;", "answers 0 1;", "year;", "open 1;", "wire 1;", "taint 1;",
            "move 1 1;", "heard 1 1;"};
        for (int i = 0; i < words.length; i++) {
            for (int sort = 0; sort < 3; sort++) {
                int its = i < 4 ? 0 : i < 9 ? 1 : 2;
                if (sort != its) {
                    fault(sort, " " + words[i], 1, 1);
                }
            }
        }
        T.says("If there is none, the first by place");
        fault(0, "shock 10;" + SAYING.repeat(8) + "answers 6 6;x", 1, 9 + 8 * SAYING.length() + 12);
        fault(1, "open 9;".repeat(41) + "year", 1, 291);
        fault(2, "heard 0 9;".repeat(9) + ";", 1, 90);
    }

    private static void otherFaults() {
        T.says("the first by place, of one place the least: 2 a NUMBER that can't be");
        fault(0, "shock 10;reach 10;", 2, 6);
        fault(0, "saying 0 6 31 6 41 21;", 2, 9);
        fault(0, "saying 31 0 0 0 0 21;", 2, 7);
        fault(0, "saying 0 0 0 0 0 21;", 2, 15);
        fault(1, "move 7 21;", 2, 5);
        fault(2, "heard 0 8;", 2, 6);
        fault(0, SAYING.repeat(7) + "shock 99;" + SAYING, 2, 133 + 6);
        T.says("3 an 8th SAYING, a 41st DEED, a 9th FACT, at its first token");
        fault(0, SAYING.repeat(7) + "shock 9;\nsaying 31 0 0 0 1 0;shock 10;", 3, 133 + 9);
        fault(1, "year;".repeat(40) + " open 7;", 3, 201);
        fault(2, "heard 1 0;".repeat(8) + "\nheard 0 8;", 3, 81);
        fault(0, SAYING.repeat(9), 3, 133);
        T.says("a line with such a NUMBER tells its SAYING, DEED, FACT all the same");
        fault(0, "saying 31 0 0 0 1 0;" + SAYING.repeat(7), 2, 7);
        fault(1, "open 7;" + "year;".repeat(40), 2, 5);
        fault(2, "heard 0 0;" + "heard 1 0;".repeat(8), 2, 6);
        fault(0, "saying 31 0 0 0 1 0;" + SAYING + "answers 1 0;", 2, 7);
    }

    private static void missingSaying() {
        T.says("If there is none of these, at the end's place, of a CELLAR: 4 a SAYING that was told of (by answers) and is not there");
        for (int n = 0; n <= 7; n++) {
            for (int s = 0; s < 7; s++) {
                int other = s == 0 ? 1 : 0;
                boolean is = n > Math.max(s, other);
                String text = "answers " + s + " " + other + ";\n" + SAYING.repeat(n);
                fault(0, text, is ? 0 : 4, is ? NONE : text.length());
                text = SAYING.repeat(n) + "answers " + other + " " + s + "; ";
                fault(0, text, is ? 0 : 4, is ? NONE : text.length());
            }
        }
        fault(0, "answers 0 1;shock 10;", 2, 18);
        fault(0, "answers 0 1;" + SAYING.repeat(8), 3, 12 + 133);
        fault(0, "answers 0 1;shock", 1, 17);
        fault(1, "open 6;wire 6;taint 6;move 6 0;", 0, NONE);
    }

    // ---- promises 1 to 7

    private static void newObject() {
        T.says("No CELLARS, YEARS, LOGS; no images.");
        CorkedTalk x = new CorkedTalk();
        for (int sort = 0; sort < 3; sort++) {
            T.due("count(" + sort + ")", 0, x.count(sort));
            T.due("text(" + sort + ", 0)", -2, x.text(sort, 0));
            T.due("again(" + sort + ")", false, x.again(sort));
        }
        T.due("end(1) of an empty tape", NONE, x.end(1));
        T.due("fault(0) before any text", 0, x.fault(0));
        T.due("fault(1) before any text", NONE, x.fault(1));
    }

    private static int feedBlanks(CorkedTalk x) {
        return x.feed(BLANKS, BLANKS, BLANKS, BLANKS, BLANKS);
    }

    private static CorkedTalk full() {
        CorkedTalk x = new CorkedTalk();
        for (int n = 1; n <= 30; n++) {
            T.due("feed " + n, 20 * n, feedBlanks(x));
        }
        return x;
    }

    private static void feed() {
        T.says("twenty bytes come behind it, of each number the highest first: how many it has");
        CorkedTalk x = new CorkedTalk();
        // "shock 5;saying 10 1 " and "4 2 7 0;answers 1 0;", as numbers of four bytes each
        T.due("feed", 20, x.feed(0x73686f63, 0x6b20353b, 0x73617969, 0x6e672031, 0x30203120));
        T.due("feed behind it", 40, x.feed(0x34203220, 0x3720303b, 0x616e7377, 0x65727320, 0x3120303b));
        T.due("a saying is missing", NONE, x.text(0, NONE));
        T.due("a saying is missing: all 40 bytes were read", 4, x.fault(0));
        T.due("a saying is missing: all 40 bytes were read", 40, x.fault(1));
        for (int at = 0; at < 20; at++) {
            int[] w = {BLANKS, BLANKS, BLANKS, BLANKS, BLANKS};
            w[at / 4] ^= (0xff ^ 32) << (24 - 8 * (at % 4));
            x.feed(w[0], w[1], w[2], w[3], w[4]);
            T.due("byte 255 at " + at, NONE, x.text(0, NONE));
            T.due("byte 255 at " + at + ": its place", at, x.fault(1));
        }
        T.says("NONE, and nothing comes, if there would be more than 600");
        x = full();
        T.due("feed to 620", NONE, x.feed(0, 0, 0, 0, 0));
        T.due("nothing came", NONE, x.end(601));
        T.due("nothing came", 600, x.end(600));
        T.due("nothing came: blanks alone", 0, x.text(0, NONE));
        for (int n : new int[] {0, 1, 19, 20, 560, 579, 580, 581, 582, 599, 600}) {
            x = full();
            T.due("end(" + n + ")", n, x.end(n));
            T.due("feed behind " + n, n <= 580 ? n + 20 : NONE, feedBlanks(x));
            T.due("no more than that", NONE, x.end((n <= 580 ? n + 20 : n) + 1));
        }
        x = full();
        x.end(581);
        x.feed(0, 0, 0, 0, 0);
        T.due("nothing came behind 581", 581, x.end(581));
        T.due("nothing came behind 581: blanks alone", 0, x.text(0, NONE));
    }

    private static void end() {
        T.says("The tape has its first n bytes alone: n.");
        CorkedTalk x = new CorkedTalk();
        x.feed(0x79656172, 0x3b78783b, BLANKS, BLANKS, BLANKS);
        T.due("end(5)", 5, x.end(5));
        T.due("behind the first five", 25, x.feed(0x79656172, 0x3b202020, BLANKS, BLANKS, BLANKS));
        T.due("the first five, and what came behind", 0, x.text(1, NONE));
        T.due("two deeds", 2, x.deed(0, NONE, 0));
        for (int n : new int[] {600, 599, 20, 19, 1, 0}) {
            x = full();
            T.due("end(" + n + ")", n, x.end(n));
            T.due("end(" + n + ") again", n, x.end(n));
        }
        T.says("NONE if it has not so many, or n is below 0.");
        x = full();
        for (int n : new int[] {601, 602, 620, 1000, MAX, -1, -2, -600, MIN}) {
            T.due("end(" + n + ")", NONE, x.end(n));
        }
        T.due("a refused end leaves the tape", 600, x.end(600));
        x.end(7);
        T.due("what was cut off is gone", NONE, x.end(8));
        T.due("end(-1) of seven", NONE, x.end(-1));
        T.due("seven are there", 7, x.end(7));
        T.due("end(0)", 0, x.end(0));
        T.due("end(1) of none", NONE, x.end(1));
        T.due("an empty tape is a text", 0, x.text(0, NONE));
    }

    private static void textTaken() {
        T.says("The tape is taken (and is empty then) as a text of a sort, a further one (at NONE), or in the place of one: its number.");
        String[][] texts = {{"shock 1;", "shock 2;", "shock 4;"}, {"open 1;", "open 2;", "open 4;"}, {"heard 1 1;", "heard 2 1;", "heard 4 1;"}};
        for (int sort = 0; sort < 3; sort++) {
            CorkedTalk x = new CorkedTalk();
            T.due("the first", 0, Teller.tell(x, sort, NONE, texts[sort][0]));
            T.due("in its place", 0, Teller.tell(x, sort, 0, texts[sort][1]));
            T.due("the second", 1, Teller.tell(x, sort, NONE, texts[sort][0]));
            T.due("taken: empty", NONE, x.end(1));
            T.due("the first is as it was", 2, first(x, sort, 0));
            T.due("in the second's place", 1, Teller.tell(x, sort, 1, texts[sort][2]));
            T.due("the first is as it was", 2, first(x, sort, 0));
            T.due("the second is the new one", 4, first(x, sort, 1));
            T.due("an empty text in its place", 0, x.text(sort, 0));
            T.due("two", 2, x.count(sort));
            for (int other = 0; other < 3; other++) {
                T.due("none of the others", other == sort ? 2 : 0, x.count(other));
            }
        }
    }

    private static int first(CorkedTalk x, int sort, int number) {
        return sort == 0 ? x.cellar(number, 0) : sort == 1 ? x.deed(number, 0, 1) : x.fact(number, 0, 0);
    }

    private static void textRefused() {
        T.says("-2: there is none such, there are as many as may be, or no such sort (no text is read then, FAULT 0).");
        for (int sort : new int[] {-1, -2, 3, 4, MIN, MAX}) {
            for (int at : new int[] {NONE, 0, 1}) {
                refused(new CorkedTalk(), sort, at);
            }
        }
        for (int sort = 0; sort < 3; sort++) {
            CorkedTalk x = new CorkedTalk();
            for (int many = 0; many <= 2; many++) {
                for (int at : new int[] {0, 1, 2, 3, -2, -3, MIN, MAX}) {
                    if (at < 0 || at >= many) {
                        refused(x, sort, at);
                        T.due("refused: as many as before", many, x.count(sort));
                    }
                }
                T.due("a further one, or as many as may be", many < 2 ? many : -2, Teller.tell(x, sort, NONE, ""));
            }
            refused(x, sort, NONE);
            T.due("as many as may be", 2, x.count(sort));
        }
    }

    private static void refused(CorkedTalk x, int sort, int at) {
        x.end(0);
        Teller.tape(x, Teller.bytes("%"), 0);
        T.due("text(" + sort + ", " + at + ")", -2, x.text(sort, at));
        T.due("no text is read: fault(0)", 0, x.fault(0));
        T.due("no text is read: fault(1)", NONE, x.fault(1));
        T.due("the tape is empty", NONE, x.end(1));
    }

    private static void textWithFault() {
        T.says("NONE: a FAULT.");
        String[] good = {"shock 2;saying 2 0 0 0 1 0;", "open 2;", "heard 2 1;"};
        String[] bad = {"shock 1;" + SAYING.repeat(2) + "answers 0 1;shock 10;", "open 1;open 7;", "heard 1 1;heard 1 8;"};
        for (int sort = 0; sort < 3; sort++) {
            CorkedTalk x = new CorkedTalk();
            T.due("a good one", 0, Teller.tell(x, sort, NONE, good[sort]));
            T.due("a bad one in its place", NONE, Teller.tell(x, sort, 0, bad[sort]));
            T.due("its fault", 2, x.fault(0));
            T.due("the tape is empty", NONE, x.end(1));
            T.due("the good one stands", 2, first(x, sort, 0));
            T.due("a bad further one", NONE, Teller.tell(x, sort, NONE, bad[sort]));
            T.due("one as before", 1, x.count(sort));
            T.due("the good one stands", 2, first(x, sort, 0));
            T.due("a good further one", 1, Teller.tell(x, sort, NONE, good[sort]));
            T.due("no fault", 0, x.fault(0));
            T.due("nothing of the bad one", 2, first(x, sort, 1));
            if (sort == 0) {
                T.due("nothing of the bad one", 1, x.cellar(1, 2));
                T.due("nothing of the bad one", 0, x.cellar(1, 70));
            }
        }
    }

    private static void fault() {
        T.says("Of the latest text(), what 0: the FAULT, 0 without, 1: its place, NONE without. NONE for another what.");
        CorkedTalk x = new CorkedTalk();
        Teller.tell(x, 0, NONE, "x");
        T.due("fault at the first byte", 1, x.fault(0));
        T.due("fault at the first byte", 0, x.fault(1));
        for (int what : new int[] {-1, -2, 2, 3, 10, MIN, MAX}) {
            T.due("fault(" + what + ")", NONE, x.fault(what));
        }
        feedBlanks(x);
        x.end(3);
        x.image(0);
        x.count(0);
        T.due("other calls leave it", 1, x.fault(0));
        Teller.tell(x, 1, NONE, "open 7;");
        T.due("the latest", 2, x.fault(0));
        T.due("the latest", 5, x.fault(1));
        Teller.tell(x, 2, NONE, "heard 1 1;");
        T.due("without", 0, x.fault(0));
        T.due("without", NONE, x.fault(1));
        Teller.tell(x, 1, NONE, "open 7;");
        x.text(3, NONE);
        T.due("no text was read", 0, x.fault(0));
        T.due("no text was read", NONE, x.fault(1));
    }

    private static void cellar() {
        T.says("NONE: there is none such (of any), or for another what.");
        StringBuilder text = new StringBuilder("shock 4;reach 2;");
        for (int s = 0; s < 7; s++) {
            text.append("saying ").append(10 + s).append(" ").append(s % 6).append(" ").append(20 + s).append(" ")
                .append((s + 1) % 6).append(" ").append(30 + s).append(" ").append(s).append(";");
            text.append("answers ").append(s).append(" ").append((s + 1) % 7).append(";");
        }
        CorkedTalk x = Teller.cellar(text.toString());
        for (int what = -30; what < 130; what++) {
            int s = Math.floorMod(what, 10);
            int[] row = {0, 10 + s, s % 6, 20 + s, (s + 1) % 6, 30 + s, s, 1 << (s + 1) % 7};
            boolean is = what >= 10 && what < 80 && s < 7;
            int want = what == 0 ? 4 : what == 1 ? 2 : what == 2 ? 7 : is ? row[what / 10] : NONE;
            T.due("cellar(0, " + what + ")", want, x.cellar(0, what));
        }
        for (int cellar : new int[] {-1, 1, 2, MIN, MAX}) {
            T.due("cellar(" + cellar + ", 2)", NONE, x.cellar(cellar, 2));
        }
        T.due("cellar(0, MIN)", NONE, x.cellar(0, MIN));
        T.due("cellar(0, MAX)", NONE, x.cellar(0, MAX));
        Teller.tell(x, 0, NONE, SAYING);
        Teller.tell(x, 0, 0, "");
        for (int what = 10; what < 80; what++) {
            T.due("no sayings: cellar(0, " + what + ")", NONE, x.cellar(0, what));
            T.due("one saying: cellar(1, " + what + ")", what % 10 > 0 ? NONE : what == 50 ? 1 : 0, x.cellar(1, what));
        }
    }

    private static void deed() {
        T.says("How many DEEDS (k NONE, what 0); of DEED k, what 0: 0 year, 1 open, 2 wire, 3 taint, 4 move, 1, 2: its numbers (NONE without).");
        String five = "year;open 6;wire 0;taint 5;move 1 20;";
        int[][] due = {{0, NONE, NONE}, {1, 6, NONE}, {2, 0, NONE}, {3, 5, NONE}, {4, 1, 20}};
        CorkedTalk x = Teller.told(null, five.repeat(8), null);
        T.due("deeds", 40, x.deed(0, NONE, 0));
        for (int k = 0; k < 40; k++) {
            for (int what = 0; what < 3; what++) {
                T.due("deed(0, " + k + ", " + what + ")", due[k % 5][what], x.deed(0, k, what));
            }
        }
        T.says("-2: there is none such (of either), or for another what.");
        for (int k : new int[] {40, 41, 100, -2, -3, MIN, MAX}) {
            T.due("deed(0, " + k + ", 0)", -2, x.deed(0, k, 0));
        }
        for (int what : new int[] {-1, 3, 4, MIN, MAX}) {
            T.due("deed(0, 0, " + what + ")", -2, x.deed(0, 0, what));
            T.due("deed(0, NONE, " + what + ")", -2, x.deed(0, NONE, what));
        }
        T.due("deed(0, NONE, 1)", -2, x.deed(0, NONE, 1));
        T.due("deed(0, NONE, 2)", -2, x.deed(0, NONE, 2));
        for (int years : new int[] {-1, 1, 2, MIN, MAX}) {
            T.due("deed(" + years + ", NONE, 0)", -2, x.deed(years, NONE, 0));
            T.due("deed(" + years + ", 0, 0)", -2, x.deed(years, 0, 0));
        }
        Teller.tell(x, 1, NONE, "");
        T.due("no deeds", 0, x.deed(1, NONE, 0));
        T.due("no first deed", -2, x.deed(1, 0, 0));
        Teller.tell(x, 1, 0, "year;");
        T.due("one deed in the place of forty", -2, x.deed(0, 1, 0));
    }

    private static void fact() {
        T.says("How many FACTS (k NONE, what 0); of FACT k, what 0: the year, 1: how many.");
        CorkedTalk x = Teller.told(null, null, "heard 1 0;heard 20 7;".repeat(4));
        T.due("facts", 8, x.fact(0, NONE, 0));
        for (int k = 0; k < 8; k++) {
            T.due("fact(0, " + k + ", 0)", k % 2 == 0 ? 1 : 20, x.fact(0, k, 0));
            T.due("fact(0, " + k + ", 1)", k % 2 == 0 ? 0 : 7, x.fact(0, k, 1));
        }
        T.says("-2: there is none such (of either), or for another what.");
        for (int k : new int[] {8, 9, -2, MIN, MAX}) {
            T.due("fact(0, " + k + ", 0)", -2, x.fact(0, k, 0));
        }
        for (int what : new int[] {-1, 2, MIN, MAX}) {
            T.due("fact(0, 0, " + what + ")", -2, x.fact(0, 0, what));
            T.due("fact(0, NONE, " + what + ")", -2, x.fact(0, NONE, what));
        }
        T.due("fact(0, NONE, 1)", -2, x.fact(0, NONE, 1));
        for (int log : new int[] {-1, 1, 2, MIN, MAX}) {
            T.due("fact(" + log + ", NONE, 0)", -2, x.fact(log, NONE, 0));
            T.due("fact(" + log + ", 0, 0)", -2, x.fact(log, 0, 0));
        }
        Teller.tell(x, 2, NONE, "");
        T.due("no facts", 0, x.fact(1, NONE, 0));
        T.due("no first fact", -2, x.fact(1, 0, 0));
    }

    // ---- promises 29 to 31

    private static void count() {
        T.says("How many there are of a sort. -2 for another one.");
        CorkedTalk x = new CorkedTalk();
        for (int many = 0; many <= 2; many++) {
            for (int sort = 0; sort < 3; sort++) {
                T.due("count(" + sort + ")", many, x.count(sort));
            }
            for (int sort = 0; sort < 3; sort++) {
                x.text(sort, NONE);
            }
        }
        for (int sort = 0; sort < 3; sort++) {
            T.due("at most two", 2, x.count(sort));
        }
        for (int sort : new int[] {-1, -2, 3, 4, MIN, MAX}) {
            T.due("count(" + sort + ")", -2, x.count(sort));
        }
    }

    private static void image() {
        T.says("Image k (0 .. 2) is all that is told (the tape, the FAULT, too), as it is now: true; false for another k.");
        CorkedTalk x = new CorkedTalk();
        for (int k : new int[] {-1, -2, 3, 4, MIN, MAX}) {
            T.due("image(" + k + ")", false, x.image(k));
            T.due("again(" + k + ")", false, x.again(k));
        }
        for (int k = 0; k < 3; k++) {
            Teller.tell(x, 0, k == 0 ? NONE : 0, "shock " + (5 + k) + ";");
            Teller.tell(x, 1, k == 0 ? NONE : 0, "open " + k + ";");
            Teller.tell(x, 2, k == 0 ? NONE : 0, "heard " + (5 + k) + " 1;");
            Teller.tell(x, 0, 0, " ".repeat(k) + "x");
            Teller.tape(x, Teller.bytes("taint " + k + ";"), 0);
            T.due("image(" + k + ")", true, x.image(k));
        }
        Teller.tell(x, 0, 0, "");
        Teller.tell(x, 0, NONE, "");
        Teller.tell(x, 1, 0, "");
        Teller.tell(x, 2, 0, "");
        for (int k : new int[] {2, 0, 1, 1}) {
            T.due("again(" + k + ")", true, x.again(k));
            T.due("again: shock", 5 + k, x.cellar(0, 0));
            T.due("again: deed", k, x.deed(0, 0, 1));
            T.due("again: fact", 5 + k, x.fact(0, 0, 0));
            T.due("again: cellars", 1, x.count(0));
            T.due("again: fault", 1, x.fault(0));
            T.due("again: place", k, x.fault(1));
            T.due("again: the tape", 0, x.text(1, 0));
            T.due("again: the tape's deed", 3, x.deed(0, 0, 0));
            T.due("again: the tape's saying", k, x.deed(0, 0, 1));
        }
        x = full();
        x.image(0);
        x.end(0);
        x.again(0);
        T.due("a full tape again", NONE, x.feed(0, 0, 0, 0, 0));
        T.due("a full tape again", 600, x.end(600));
        x.end(3);
        x.image(0);
        feedBlanks(x);
        x.again(0);
        T.due("a tape of three again", NONE, x.end(4));
    }

    private static void again() {
        T.says("All that is as image k has it: true; false if there is none such.");
        CorkedTalk x = Teller.told("shock 5;", "open 5;", "heard 5 5;");
        x.image(1);
        Teller.tell(x, 0, 0, "shock 6;x");
        Teller.tell(x, 0, 0, "shock 6;");
        Teller.tape(x, Teller.bytes("abc"), 0);
        for (int k : new int[] {0, 2, 3, -1, MIN, MAX}) {
            T.due("again(" + k + ")", false, x.again(k));
        }
        T.due("nothing came back: shock", 6, x.cellar(0, 0));
        T.due("nothing came back: the tape", 3, x.end(3));
        T.due("again(1)", true, x.again(1));
        T.due("shock", 5, x.cellar(0, 0));
        T.due("an empty tape", NONE, x.end(1));
        T.due("an image is not told, so it stays", true, x.again(1));
        x.image(0);
        x.again(1);
        T.due("a later image stays too", true, x.again(0));
        CorkedTalk y = new CorkedTalk();
        y.image(2);
        y.text(0, NONE);
        y.text(1, NONE);
        y.text(2, NONE);
        T.due("again(2)", true, y.again(2));
        for (int sort = 0; sort < 3; sort++) {
            T.due("as new: count", 0, y.count(sort));
            T.due("as new: the next is the first", 0, y.text(sort, NONE));
        }
        T.due("another object has no images", false, new CorkedTalk().again(2));
    }

    private static void calls512() {
        T.says("An object is used for at most 512 calls after it has been made");
        CorkedTalk x = new CorkedTalk();
        for (int call = 0; call < 510; call++) {
            int[] due = {20, -2, 0};
            int kind = call % 3;
            T.due("call " + call, due[kind], kind == 0 ? feedBlanks(x) : kind == 1 ? x.text(0, 0) : x.end(0));
        }
        T.due("call 511", 0, x.text(0, NONE));
        T.due("call 512", 3, x.cellar(0, 0));
    }
}
