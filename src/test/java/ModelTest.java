import java.util.Random;

/** Runs of calls by seeds, each answer held against the model's. */
public final class ModelTest {
    private static final Teller TELLER = new Teller();
    private static Random dice;
    private static CorkedTalk x;
    private static Model m;

    public static void main(String[] args) {
        int runs = args.length > 0 ? Integer.parseInt(args[0]) : 400;
        int from = args.length > 1 ? Integer.parseInt(args[1]) : 0;
        for (int run = from; run < from + runs; run++) {
            dice = new Random(run * 7919L + 5);
            x = new CorkedTalk();
            m = new Model();
            // a text takes up to 33 calls, so a run stays under 512
            for (int i = 0; i < 14; i++) {
                if (i < 3 || dice.nextInt(3) == 0) {
                    tellOne(run, i < 3 && dice.nextInt(8) != 0 ? i : dice.nextInt(4) - dice.nextInt(2));
                }
                for (int j = 0; j < 14; j++) {
                    ask(run);
                }
            }
        }
        TELLER.finish("ModelTest");
    }

    private static int below(int n) {
        return dice.nextInt(n);
    }

    /** Mostly 0 or 1, at times what can't be. */
    private static int which() {
        int r = below(20);
        return r < 11 ? 0 : r < 18 ? 1 : below(6) - 2;
    }

    private static int odd(int ordinary) {
        int r = below(60);
        if (r == 0) return Integer.MIN_VALUE;
        if (r == 1) return Integer.MAX_VALUE;
        if (r == 2) return -below(30);
        if (r == 3) return below(120);
        return ordinary;
    }

    // ---- texts

    private static void tellOne(int run, int sort) {
        String text = sort <= 0 ? cellarText() : sort == 1 ? yearsText() : sort == 2 ? logText() : "year;";
        if (below(5) == 0) text = spoil(text);
        if (text.length() > 600) text = text.substring(0, 600);
        if (below(3) > 0) due(run, "end(0)", m.end(0), x.end(0));
        byte[] bytes = Teller.bytes(text);
        int already = m.tape.length;
        for (int at = 0; at < bytes.length; at += 20) {
            int[] w = new int[5];
            for (int i = 0; i < 20; i++) {
                w[i / 4] = w[i / 4] << 8 | (at + i < bytes.length ? bytes[at + i] & 255 : below(256));
            }
            due(run, "feed", m.feed(w), x.feed(w[0], w[1], w[2], w[3], w[4]));
        }
        int n = odd(already + bytes.length);
        due(run, "end(" + n + ")", m.end(n), x.end(n));
        int at = below(3) == 0 ? below(3) : m.count(Math.max(0, Math.min(2, sort))) == 2 ? below(3) - 1 : -1;
        String told = new String(m.tape, java.nio.charset.StandardCharsets.ISO_8859_1).replace('\n', '|');
        due(run, "text(" + sort + ", " + at + ") of " + told, m.text(sort, at), x.text(sort, at));
        due(run, "fault(0) of " + told, m.faultOf(0), x.fault(0));
        due(run, "fault(1) of " + told, m.faultOf(1), x.fault(1));
    }

    private static String gap() {
        return below(9) == 0 ? "\n" : below(9) == 0 ? "  " : " ";
    }

    private static String number(int top) {
        int n = below(120) == 0 ? below(100) : below(top + 1);
        return n < 10 && below(30) == 0 ? "0" + n : "" + n;
    }

    private static String cellarText() {
        StringBuilder b = new StringBuilder();
        if (below(3) > 0) b.append("shock").append(gap()).append(number(9)).append(";");
        if (below(3) > 0) b.append("reach").append(gap()).append(number(below(2) == 0 ? 3 : 9)).append(";");
        int sayings = below(30) == 0 ? 8 : below(25) == 0 ? 0 : below(4) == 0 ? 7 : 1 + below(7);
        int crowd = below(3) == 0 ? 4 : 20;
        int calm = below(4);
        int dull = below(4) == 0 ? 3 : 30;
        for (int s = 0; s < sayings; s++) {
            int fizz = below(31);
            int cork = Math.max(1, Math.min(40, fizz + below(14) - (below(calm + 1) == 0 ? 4 : 0)));
            b.append("saying ").append(number(dull)).append(gap()).append(number(5)).append(gap()).append(fizz)
                .append(gap()).append(number(below(2) == 0 ? 1 : 5)).append(gap()).append(cork).append(gap())
                .append(number(crowd)).append(gap().trim()).append(";");
        }
        int answers = below(3) == 0 ? below(30) : below(9);
        for (int i = 0; i < answers && sayings >= 2; i++) {
            int a = below(40) == 0 ? below(8) : below(sayings);
            int c = below(60) == 0 ? a : (a + 1 + below(sayings - 1)) % sayings;
            b.append("answers ").append(a).append(gap()).append(c).append(";");
        }
        if (below(8) == 0) b.append("shock ").append(number(9)).append(" ; ");
        return b.toString();
    }

    private static String yearsText() {
        StringBuilder b = new StringBuilder();
        int deeds = below(12) == 0 ? 41 : below(12) == 0 ? 40 : below(20);
        int odd = below(3) == 0 ? 40 : 0;
        for (int i = 0; i < deeds; i++) {
            int kind = below(9);
            if (kind < 4 || deeds >= 40 && below(3) > 0) b.append("year");
            else if (kind < 8) b.append(new String[] {"open ", "wire ", "taint "}[below(3)]).append(number(below(5) == 0 ? 6 : 3));
            else b.append("move").append(gap()).append(number(3)).append(gap()).append(number(20));
            b.append(";");
            if (odd > 0 && below(odd) == 0) b.append(" \n");
        }
        return b.toString();
    }

    private static String logText() {
        StringBuilder b = new StringBuilder();
        int facts = below(15) == 0 ? 9 : below(15) == 0 ? 8 : below(4);
        Model.Cellar c = m.cellars.isEmpty() ? null : m.cellars.get(below(m.cellars.size()));
        int[] in = c == null ? new int[60] : Model.burstsBy(c, below(2) == 0 ? below(100) : c.reach * 10 + c.shock);
        for (int k = 0; k < facts; k++) {
            int year = 1 + below(below(3) == 0 ? 20 : 5);
            b.append("heard").append(gap()).append(below(60) == 0 ? below(23) : year).append(gap())
                .append(below(12) == 0 ? below(9) : in[year]).append(";");
        }
        return b.toString();
    }

    private static String spoil(String text) {
        StringBuilder b = new StringBuilder(text);
        for (int i = 0; i <= below(2); i++) {
            int at = below(b.length() + 1);
            String signs = "0123456789 ;\nabxyzshock\u00e9\u0000A,";
            switch (below(4)) {
                case 0: if (at < b.length()) b.deleteCharAt(at); break;
                case 1: b.insert(at, signs.charAt(below(signs.length()))); break;
                case 2: b.setLength(at); break;
                default: b.insert(at, new String[] {"year;", " open", "saying", "shock 3;", " 7 ", "123"}[below(6)]); break;
            }
        }
        return b.toString();
    }

    // ---- questions

    private static void due(int run, String call, long want, long got) {
        TELLER.due("run " + run + ": " + call, want, got);
    }

    private static void ask(int run) {
        int c = odd(which());
        int y = odd(which());
        int saying = odd(below(8) - (below(9) == 0 ? 1 : 0));
        boolean b = dice.nextBoolean();
        switch (below(30)) {
            case 0: {
                int n = odd(below(30));
                if (below(4) == 0) due(run, "end(" + n + ")", m.end(n), x.end(n));
                break;
            }
            case 1: {
                int w = odd(below(90));
                due(run, "cellar(" + c + ", " + w + ")", m.cellar(c, w), x.cellar(c, w));
                break;
            }
            case 2: {
                int k = odd(below(20) - 1), w = odd(below(4) - below(2));
                due(run, "deed(" + y + ", " + k + ", " + w + ")", m.deed(y, k, w), x.deed(y, k, w));
                break;
            }
            case 3: due(run, "till(" + c + ", " + y + ")", m.till(c, y), x.till(c, y)); break;
            case 4: case 5: case 6: {
                int end = m.till(c, y);
                int n = odd(below(Math.max(0, end) + 2)), w = odd(below(3) == 0 ? below(6) : 10 + below(40));
                due(run, "state(" + c + ", " + y + ", " + n + ", " + w + ")", m.state(c, y, n, w), x.state(c, y, n, w));
                break;
            }
            case 7: due(run, "train(" + c + ", " + saying + ")", m.train(c, saying), x.train(c, saying)); break;
            case 8: {
                int size = m.cellar(c, 2);
                int k = odd(below(8) - 1);
                if (size < 7 || below(6) == 0) due(run, "laying(" + c + ", " + k + ")", m.laying(c, k), x.laying(c, k));
                break;
            }
            case 9: due(run, "life(" + c + ", " + saying + ")", m.life(c, saying), x.life(c, saying)); break;
            case 10: {
                int n = odd(below(m.cellar(c, 2) > 4 ? 6 : 11)), k = odd(below(10) - 1);
                if (n <= 7 || m.cellar(c, 2) <= 5) due(run, "plan(" + c + ", " + n + ", " + k + ")", m.plan(c, n, k), x.plan(c, n, k));
                break;
            }
            case 11: due(run, "talk(" + c + ", " + (saying - 1) + ")", m.talk(c, saying - 1), x.talk(c, saying - 1)); break;
            case 12: due(run, "dinner(" + c + ", " + (saying - 1) + ")", m.dinner(c, saying - 1), x.dinner(c, saying - 1)); break;
            case 13: {
                int n = odd(below(3) > 0 ? below(4) : below(22));
                due(run, "wires(" + c + ", " + n + ", " + b + ")", m.wires(c, n, b), x.wires(c, n, b));
                break;
            }
            case 14: {
                int n = odd(below(7));
                due(run, "duel(" + c + ", " + n + ", " + b + ")", m.duel(c, n, b), x.duel(c, n, b));
                break;
            }
            case 15: {
                int p = odd(below(12)), e = odd(below(8) == 0 ? 2 : below(2)), n = odd(below(9));
                due(run, "hold(" + c + ", " + p + ", " + e + ", " + n + ", " + b + ")", m.hold(c, p, e, n, b), x.hold(c, p, e, n, b));
                break;
            }
            case 16: {
                int k = odd(below(8) - 1), w = odd(below(3));
                due(run, "fact(" + y + ", " + k + ", " + w + ")", m.fact(y, k, w), x.fact(y, k, w));
                break;
            }
            case 17: case 18: {
                int w = odd(below(2) == 0 ? below(5) : 10 + below(20));
                due(run, "fits(" + c + ", " + y + ", " + w + ")", m.fits(c, y, w), x.fits(c, y, w));
                break;
            }
            case 19: {
                int n = odd(below(62)), w = odd(below(3) == 0 ? below(6) : 10 + below(40)), seed = dice.nextInt();
                due(run, "drawn(" + c + ", " + seed + ", " + n + ", " + w + ")", m.drawn(c, seed, n, w), x.drawn(c, seed, n, w));
                break;
            }
            case 20: case 21: case 22: {
                int w = odd(below(20));
                due(run, "wit(" + c + ", " + w + ")", m.wit(c, w), x.wit(c, w));
                break;
            }
            case 23: {
                int n = odd(below(2) == 0 ? below(8) : below(53));
                due(run, "flat(" + c + ", " + n + ")", m.flat(c, n), x.flat(c, n));
                due(run, "next(" + c + ", " + n + ")", m.next(c, n), x.next(c, n));
                break;
            }
            case 24: {
                int k = odd(below(9));
                due(run, "half(" + c + ", " + k + ", " + b + ")", m.half(c, k, b), x.half(c, k, b));
                break;
            }
            case 25: {
                int w = odd(below(7));
                due(run, "after(" + c + ", " + y + ", " + w + ")", m.after(c, y, w), x.after(c, y, w));
                break;
            }
            case 26: {
                int r = odd(below(11));
                due(run, "odds(" + c + ", " + y + ", " + r + ", " + b + ")", m.odds(c, y, r, b), x.odds(c, y, r, b));
                break;
            }
            case 27: due(run, "shock(" + c + ", " + y + ", " + b + ")", m.shock(c, y, b), x.shock(c, y, b)); break;
            case 28: {
                int s = odd(below(4));
                due(run, "count(" + s + ")", m.count(s), x.count(s));
                int w = odd(below(3));
                due(run, "fault(" + w + ")", m.faultOf(w), x.fault(w));
                break;
            }
            default: {
                int k = odd(below(3));
                if (b) due(run, "image(" + k + ")", m.image(k) ? 1 : 0, x.image(k) ? 1 : 0);
                else due(run, "again(" + k + ")", m.again(k) ? 1 : 0, x.again(k) ? 1 : 0);
                break;
            }
        }
    }
}
