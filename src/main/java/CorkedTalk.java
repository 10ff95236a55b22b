/** Cellars of sayings, years of deeds and logs of bursts, told as texts, and what follows from them. */
public final class CorkedTalk {
    public static final int NONE = -1;

    private static final int WRONG = -2;
    private static final int NO_DUEL = -999;
    private static final int MOST_BYTES = 600;
    private static final int FED_BYTES = 20;
    private static final int MOST_SAYINGS = 7;
    private static final int NOTHING = 7;
    private static final int MOST_DEEDS = 40;
    private static final int MOST_FACTS = 8;
    private static final int MOST_OF_SORT = 2;
    private static final int CELLARS = 0;
    private static final int YEARS = 1;
    private static final int LOGS = 2;
    private static final int SORTS = 3;
    private static final int IMAGES = 3;
    private static final int LAST_YEAR = 50;
    private static final int LAST_FACT_YEAR = 20;
    private static final int LAST_PLACE = 20;
    private static final int LAST_REACH = 9;
    private static final int MOST_PLAN_YEARS = 10;
    private static final int MOST_WIRE_YEARS = 20;
    private static final int MOST_TURNS = 5;
    private static final int MOST_DRAWS = 60;
    private static final int WIRE = 5;

    private final Told told;
    private final Told[] images;
    private final boolean[] imaged;
    private final Reader reader;
    private final Run run;
    private final Trains trains;
    private final Laying layout;
    private final Orders orders;
    private final Laws laws;

    public CorkedTalk() {
        told = new Told();
        images = new Told[IMAGES];
        for (int k = 0; k < IMAGES; k++) {
            images[k] = new Told();
        }
        imaged = new boolean[IMAGES];
        reader = new Reader();
        run = new Run();
        trains = new Trains();
        layout = new Laying();
        orders = new Orders();
        laws = new Laws();
    }

    public int feed(int a, int b, int c, int d, int e) {
        if (told.length + FED_BYTES > MOST_BYTES) {
            return NONE;
        }
        told.push(a);
        told.push(b);
        told.push(c);
        told.push(d);
        told.push(e);
        return told.length;
    }

    public int end(int n) {
        if (n < 0 || n > told.length) {
            return NONE;
        }
        told.length = n;
        return n;
    }

    public int text(int sort, int at) {
        // the tape is taken whatever comes of it, also where no text is read
        int length = told.length;
        told.length = 0;
        told.fault = 0;
        told.faultPlace = NONE;
        if (sort < 0 || sort >= SORTS) {
            return WRONG;
        }
        int number = at == NONE ? told.counts[sort] : at;
        int top = at == NONE ? MOST_OF_SORT : told.counts[sort];
        if (number < 0 || number >= top) {
            return WRONG;
        }
        reader.read(sort, told.tape, length);
        if (reader.fault != 0) {
            told.fault = reader.fault;
            told.faultPlace = reader.faultPlace;
            return NONE;
        }
        told.take(reader, sort, number);
        if (sort == CELLARS) {
            forgetCellars();
        }
        return number;
    }

    public int fault(int what) {
        if (what == 0) {
            return told.fault;
        }
        return what == 1 ? told.faultPlace : NONE;
    }

    public int cellar(int cellar, int what) {
        Cellar c = told.cellarAt(cellar);
        if (c == null || what < 0) {
            return NONE;
        }
        switch (what) {
            case 0: return c.shock;
            case 1: return c.reach;
            case 2: return c.sayings;
            default: break;
        }
        int s = what % 10;
        if (!c.has(s)) {
            return NONE;
        }
        switch (what / 10) {
            case 1: return c.wit[s];
            case 2: return c.fade[s];
            case 3: return c.fizz[s];
            case 4: return c.rise[s];
            case 5: return c.cork[s];
            case 6: return c.place[s];
            case 7: return c.answers[s];
            default: return NONE;
        }
    }

    public int deed(int years, int k, int what) {
        Deeds d = told.deedsAt(years);
        if (d == null) {
            return WRONG;
        }
        if (k == NONE && what == 0) {
            return d.size;
        }
        if (k < 0 || k >= d.size) {
            return WRONG;
        }
        switch (what) {
            case 0: return d.kind[k];
            case 1: return d.saying[k];
            case 2: return d.place[k];
            default: return WRONG;
        }
    }

    public int till(int cellar, int years) {
        Cellar c = told.cellarAt(cellar);
        Deeds d = told.deedsAt(years);
        if (c == null || d == null) {
            return NONE;
        }
        run.begin(c);
        return run.follow(d, d.size);
    }

    public int state(int cellar, int years, int n, int what) {
        Cellar c = told.cellarAt(cellar);
        Deeds d = told.deedsAt(years);
        if (c == null || d == null || n < 0 || n > d.size) {
            return NONE;
        }
        run.begin(c);
        if (run.follow(d, n) < n) {
            return NONE;
        }
        return run.look(what);
    }

    public int train(int cellar, int saying) {
        Cellar c = told.cellarAt(cellar);
        if (c == null || !c.has(saying)) {
            return NONE;
        }
        trains.lookAt(c);
        return trains.from(saying);
    }

    public int laying(int cellar, int k) {
        Cellar c = told.cellarAt(cellar);
        if (c == null || (k != NONE && !c.has(k))) {
            return NONE;
        }
        layout.find(cellar, c);
        return k == NONE ? layout.best : layout.row[k];
    }

    public int life(int cellar, int saying) {
        Cellar c = told.cellarAt(cellar);
        if (c == null || !c.has(saying)) {
            return NONE;
        }
        return c.lifeOf(saying);
    }

    public int plan(int cellar, int n, int k) {
        Cellar c = told.cellarAt(cellar);
        if (c == null || n < 0 || n > MOST_PLAN_YEARS || k < NONE || k >= n) {
            return NONE;
        }
        orders.bestPlan(c, n);
        return k == NONE ? orders.worth : orders.row[k];
    }

    public int talk(int cellar, int k) {
        Cellar c = told.cellarAt(cellar);
        if (c == null) {
            return NONE;
        }
        orders.bestRow(c, true);
        return orders.worthOrNumber(k);
    }

    public int dinner(int cellar, int k) {
        Cellar c = told.cellarAt(cellar);
        if (c == null) {
            return NONE;
        }
        orders.bestRow(c, false);
        return orders.worthOrNumber(k);
    }

    public int wires(int cellar, int n, boolean which) {
        Cellar c = told.cellarAt(cellar);
        if (c == null || n < 0 || n > MOST_WIRE_YEARS) {
            return NONE;
        }
        int bits = Look.wiresFor(c, n);
        return which || bits == NONE ? bits : Integer.bitCount(bits);
    }

    public int duel(int cellar, int n, boolean first) {
        Cellar c = told.cellarAt(cellar);
        if (c == null || n < 0 || n > MOST_TURNS) {
            return NO_DUEL;
        }
        orders.playOut(c, n);
        return first ? orders.move : orders.worth;
    }

    public long hold(int cellar, int p, int y, int n, boolean under) {
        Cellar c = told.cellarAt(cellar);
        if (c == null || p < 0 || p > 10 || y < 0 || y > 2 || n < 0 || n > MOST_SAYINGS) {
            return NONE;
        }
        long good = power(p, y);
        long all = power(10, y);
        long some = 0;
        for (int k = n; k <= c.sayings; k++) {
            some += ways(c.sayings, k) * power(good, k) * power(all - good, c.sayings - k);
        }
        return inLeastTerms(some, power(all, c.sayings), under);
    }

    public int fact(int log, int k, int what) {
        Log l = told.logAt(log);
        if (l == null) {
            return WRONG;
        }
        if (k == NONE && what == 0) {
            return l.size;
        }
        if (k < 0 || k >= l.size) {
            return WRONG;
        }
        switch (what) {
            case 0: return l.year[k];
            case 1: return l.heard[k];
            default: return WRONG;
        }
    }

    public int fits(int cellar, int log, int what) {
        Cellar c = told.cellarAt(cellar);
        Log l = told.logAt(log);
        if (c == null || l == null || what < 0) {
            return WRONG;
        }
        laws.find(cellar, c, l);
        switch (what) {
            case 0: return laws.size;
            case 1: return laws.sureReach();
            case 2: return laws.sureShock();
            case 3: return laws.yearToAsk();
            default: break;
        }
        int k = what - 10;
        return k >= 0 && k < laws.size ? laws.fitting[k] : WRONG;
    }

    public int drawn(int cellar, int seed, int n, int what) {
        Cellar c = told.cellarAt(cellar);
        if (c == null || n < 0 || n > MOST_DRAWS) {
            return NONE;
        }
        run.begin(c);
        run.draw(seed, n);
        return run.look(what);
    }

    public int wit(int cellar, int what) {
        Cellar c = told.cellarAt(cellar);
        if (c == null) {
            return WRONG;
        }
        trains.lookAt(c);
        switch (what) {
            case 0: return Look.wittiest(c);
            case 1: return Look.witOfAll(c, 0);
            case 2: return Look.liveliest(c);
            case 3: return trains.ruin(c);
            case 4: return trains.ruinWit(c);
            case 5: return Look.closest(c);
            case 6: return Look.closestGap(c);
            case 7: return trains.rows();
            case 8: return trains.largestRow();
            case 9: return Integer.bitCount(trains.cut());
            case 10: return trains.cut();
            case 11: return Look.goodYear(c);
            case 12: return Look.mute(c);
            case 13: return Look.ring(c);
            case 14: return calmYears(c, false);
            case 15: return calmYears(c, true);
            case 16: return trains.pair();
            case 17: return Look.earliest(c);
            case 18: return Look.lasting(c);
            default: return WRONG;
        }
    }

    public int flat(int cellar, int n) {
        Cellar c = told.cellarAt(cellar);
        if (c == null || n < 0 || n > LAST_YEAR) {
            return NONE;
        }
        return Look.witless(c, n);
    }

    public int next(int cellar, int n) {
        Cellar c = told.cellarAt(cellar);
        if (c == null || n < 1 || n > LAST_YEAR) {
            return NONE;
        }
        run.begin(c);
        run.passYears(n);
        return run.burstsIn[n];
    }

    public int half(int cellar, int k, boolean which) {
        Cellar c = told.cellarAt(cellar);
        if (c == null || k < 0 || k > MOST_SAYINGS) {
            return NONE;
        }
        int bits = Look.bestApart(c, k);
        return which || bits == NONE ? bits : Look.witOf(c, bits);
    }

    public int after(int cellar, int years, int what) {
        Cellar c = told.cellarAt(cellar);
        Deeds d = told.deedsAt(years);
        if (c == null || d == null) {
            return WRONG;
        }
        run.begin(c);
        run.follow(d, d.size);
        switch (what) {
            case 0: return run.firstBurstYear();
            case 1: return run.mostBurstYear();
            case 2: return run.fond;
            case 3: return run.waste;
            case 4: return run.spoilt;
            case 5: return run.moves;
            default: return WRONG;
        }
    }

    public int odds(int cellar, int log, int reach, boolean under) {
        Cellar c = told.cellarAt(cellar);
        Log l = told.logAt(log);
        if (c == null || l == null || reach < 0 || reach > LAST_REACH) {
            return NONE;
        }
        laws.find(cellar, c, l);
        return (int) inLeastTerms(laws.sizeOfReach(reach), laws.size, under);
    }

    public int shock(int cellar, int log, boolean greatest) {
        Cellar c = told.cellarAt(cellar);
        Log l = told.logAt(log);
        if (c == null || l == null) {
            return NONE;
        }
        laws.find(cellar, c, l);
        return greatest ? laws.greatestShock() : laws.leastShock();
    }

    public int count(int sort) {
        return sort >= 0 && sort < SORTS ? told.counts[sort] : WRONG;
    }

    public boolean image(int k) {
        if (k < 0 || k >= IMAGES) {
            return false;
        }
        images[k].become(told);
        imaged[k] = true;
        return true;
    }

    public boolean again(int k) {
        if (k < 0 || k >= IMAGES || !imaged[k]) {
            return false;
        }
        told.become(images[k]);
        forgetCellars();
        return true;
    }

    /** What was found out of a cellar is kept by its number, and stale once another may stand there. */
    private void forgetCellars() {
        layout.forget();
        laws.forget();
    }

    private int calmYears(Cellar c, boolean where) {
        run.begin(c);
        run.passYears(LAST_YEAR);
        int longest = 0;
        int begin = NONE;
        int row = 0;
        for (int year = 1; year <= LAST_YEAR; year++) {
            row = run.burstsIn[year] == 0 ? row + 1 : 0;
            if (row > longest) {
                longest = row;
                begin = year - row + 1;
            }
        }
        return where ? begin : longest;
    }

    private static boolean in(int bits, int s) {
        return (bits >> s & 1) != 0;
    }

    private static long power(long base, int times) {
        long product = 1;
        for (int i = 0; i < times; i++) {
            product *= base;
        }
        return product;
    }

    private static long ways(int of, int k) {
        long ways = 1;
        for (int i = 1; i <= k; i++) {
            ways = ways * (of - i + 1) / i;
        }
        return ways;
    }

    private static long inLeastTerms(long some, long of, boolean under) {
        long shared = sharedDivisor(some, of);
        if (of <= 0 || shared <= 0) {
            return NONE;
        }
        return (under ? of : some) / shared;
    }

    private static long sharedDivisor(long a, long b) {
        long high = a;
        long low = b;
        // a long needs fewer than a hundred steps of Euclid's
        for (int i = 0; i < 100 && low != 0; i++) {
            long rest = high % low;
            high = low;
            low = rest;
        }
        return high;
    }

    /** All that an image holds. */
    private static final class Told {
        final byte[] tape = new byte[MOST_BYTES];
        int length;
        int fault;
        int faultPlace = NONE;
        final int[] counts = new int[SORTS];
        final Cellar[] cellars = new Cellar[MOST_OF_SORT];
        final Deeds[] deeds = new Deeds[MOST_OF_SORT];
        final Log[] logs = new Log[MOST_OF_SORT];

        Told() {
            for (int i = 0; i < MOST_OF_SORT; i++) {
                cellars[i] = new Cellar();
                deeds[i] = new Deeds();
                logs[i] = new Log();
            }
        }

        void push(int number) {
            for (int shift = 24; shift >= 0 && length < MOST_BYTES; shift -= 8) {
                tape[length] = (byte) (number >> shift);
                length++;
            }
        }

        Cellar cellarAt(int i) {
            return i >= 0 && i < counts[CELLARS] ? cellars[i] : null;
        }

        Deeds deedsAt(int i) {
            return i >= 0 && i < counts[YEARS] ? deeds[i] : null;
        }

        Log logAt(int i) {
            return i >= 0 && i < counts[LOGS] ? logs[i] : null;
        }

        void take(Reader reader, int sort, int number) {
            if (number < 0 || number >= MOST_OF_SORT) {
                return;
            }
            switch (sort) {
                case CELLARS: cellars[number].become(reader.cellar); break;
                case YEARS: deeds[number].become(reader.deeds); break;
                case LOGS: logs[number].become(reader.log); break;
                default: return;
            }
            counts[sort] = Math.max(counts[sort], number + 1);
        }

        void become(Told other) {
            System.arraycopy(other.tape, 0, tape, 0, MOST_BYTES);
            length = other.length;
            fault = other.fault;
            faultPlace = other.faultPlace;
            System.arraycopy(other.counts, 0, counts, 0, SORTS);
            for (int i = 0; i < MOST_OF_SORT; i++) {
                cellars[i].become(other.cellars[i]);
                deeds[i].become(other.deeds[i]);
                logs[i].become(other.logs[i]);
            }
        }
    }

    private static final class Cellar {
        static final int FIRST_SHOCK = 3;
        static final int FIRST_REACH = 1;

        int shock = FIRST_SHOCK;
        int reach = FIRST_REACH;
        int sayings;
        final int[] wit = new int[MOST_SAYINGS];
        final int[] fade = new int[MOST_SAYINGS];
        final int[] fizz = new int[MOST_SAYINGS];
        final int[] rise = new int[MOST_SAYINGS];
        final int[] cork = new int[MOST_SAYINGS];
        final int[] place = new int[MOST_SAYINGS];
        final int[] answers = new int[MOST_SAYINGS];

        void clear() {
            shock = FIRST_SHOCK;
            reach = FIRST_REACH;
            sayings = 0;
            // answers may be told ahead of their sayings, so a further saying can't begin them anew
            for (int s = 0; s < MOST_SAYINGS; s++) {
                answers[s] = 0;
            }
        }

        void become(Cellar other) {
            shock = other.shock;
            reach = other.reach;
            sayings = other.sayings;
            System.arraycopy(other.wit, 0, wit, 0, MOST_SAYINGS);
            System.arraycopy(other.fade, 0, fade, 0, MOST_SAYINGS);
            System.arraycopy(other.fizz, 0, fizz, 0, MOST_SAYINGS);
            System.arraycopy(other.rise, 0, rise, 0, MOST_SAYINGS);
            System.arraycopy(other.cork, 0, cork, 0, MOST_SAYINGS);
            System.arraycopy(other.place, 0, place, 0, MOST_SAYINGS);
            System.arraycopy(other.answers, 0, answers, 0, MOST_SAYINGS);
        }

        boolean isFull() {
            return sayings >= MOST_SAYINGS;
        }

        void add(int[] numbers) {
            if (isFull() || numbers.length < 6) {
                return;
            }
            wit[sayings] = numbers[0];
            fade[sayings] = numbers[1];
            fizz[sayings] = numbers[2];
            rise[sayings] = numbers[3];
            cork[sayings] = numbers[4];
            place[sayings] = numbers[5];
            sayings++;
        }

        void addAnswer(int s, int other) {
            if (s >= 0 && s < MOST_SAYINGS) {
                answers[s] |= 1 << other;
            }
        }

        boolean has(int s) {
            return s >= 0 && s < sayings;
        }

        int all() {
            return (1 << sayings) - 1;
        }

        int witIn(int s, int year) {
            return Math.max(0, wit[s] - fade[s] * year);
        }

        int lifeOf(int s) {
            for (int year = 1; year <= LAST_YEAR; year++) {
                if (fizz[s] + rise[s] * year > cork[s]) {
                    return year;
                }
            }
            return NONE;
        }
    }

    private static final class Deeds {
        static final int YEAR = 0;
        static final int OPEN = 1;
        static final int WIRING = 2;
        static final int TAINT = 3;
        static final int MOVE = 4;

        int size;
        final int[] kind = new int[MOST_DEEDS];
        final int[] saying = new int[MOST_DEEDS];
        final int[] place = new int[MOST_DEEDS];

        void become(Deeds other) {
            size = other.size;
            System.arraycopy(other.kind, 0, kind, 0, MOST_DEEDS);
            System.arraycopy(other.saying, 0, saying, 0, MOST_DEEDS);
            System.arraycopy(other.place, 0, place, 0, MOST_DEEDS);
        }

        boolean isFull() {
            return size >= MOST_DEEDS;
        }

        void add(int itsKind, int s, int spot) {
            if (isFull()) {
                return;
            }
            kind[size] = itsKind;
            saying[size] = s;
            place[size] = spot;
            size++;
        }
    }

    private static final class Log {
        int size;
        final int[] year = new int[MOST_FACTS];
        final int[] heard = new int[MOST_FACTS];

        void become(Log other) {
            size = other.size;
            System.arraycopy(other.year, 0, year, 0, MOST_FACTS);
            System.arraycopy(other.heard, 0, heard, 0, MOST_FACTS);
        }

        boolean isFull() {
            return size >= MOST_FACTS;
        }

        void add(int inYear, int many) {
            if (isFull()) {
                return;
            }
            year[size] = inYear;
            heard[size] = many;
            size++;
        }
    }

    /** Reads a text into a cellar, deeds or a log of its own, so that a fault leaves what was told as it was. */
    private static final class Reader {
        static final int TEXT_END = 0;
        static final int WORD = 1;
        static final int NUMBER = 2;
        static final int STOP = 3;
        static final int ODD = 4;

        static final int SHOCK = 0;
        static final int REACH = 1;
        static final int SAYING = 2;
        static final int ANSWERS = 3;
        static final int YEAR = 4;
        static final int HEARD = 9;
        static final int WORDS = 10;
        static final int MOST_NUMBERS = 6;

        /** By word: which sort of text has it, and how many numbers follow it. */
        static final int[] SORT_OF = {0, 0, 0, 0, 1, 1, 1, 1, 1, 2};
        static final int[] NUMBERS = {1, 1, 6, 2, 0, 1, 1, 1, 2, 2};
        /** By word, six each: the least and the greatest that each of its numbers may be. */
        static final int[] LOW = {
            0, 0, 0, 0, 0, 0,
            0, 0, 0, 0, 0, 0,
            0, 0, 0, 0, 1, 0,
            0, 0, 0, 0, 0, 0,
            0, 0, 0, 0, 0, 0,
            0, 0, 0, 0, 0, 0,
            0, 0, 0, 0, 0, 0,
            0, 0, 0, 0, 0, 0,
            0, 0, 0, 0, 0, 0,
            1, 0, 0, 0, 0, 0};
        static final int[] HIGH = {
            9, 0, 0, 0, 0, 0,
            9, 0, 0, 0, 0, 0,
            30, 5, 30, 5, 40, 20,
            6, 6, 0, 0, 0, 0,
            0, 0, 0, 0, 0, 0,
            6, 0, 0, 0, 0, 0,
            6, 0, 0, 0, 0, 0,
            6, 0, 0, 0, 0, 0,
            6, 20, 0, 0, 0, 0,
            20, 7, 0, 0, 0, 0};

        final Cellar cellar = new Cellar();
        final Deeds deeds = new Deeds();
        final Log log = new Log();
        int fault;
        int faultPlace;
        private final byte[] tape = new byte[MOST_BYTES];
        private final int[] numbers = new int[MOST_NUMBERS];
        private final int[] places = new int[MOST_NUMBERS];
        private int length;
        private int at;
        private int kind;
        private int start;
        private int value;
        private int named;

        void read(int sort, byte[] bytes, int size) {
            begin(bytes, size);
            step();
            // every line has a byte at least
            for (int line = 0; line <= MOST_BYTES && kind != TEXT_END && fault != 1; line++) {
                readLine(sort);
            }
            if (sort == CELLARS && (named & ~cellar.all()) != 0) {
                note(4, length);
            }
        }

        private void begin(byte[] bytes, int size) {
            length = Math.max(0, Math.min(size, Math.min(bytes.length, MOST_BYTES)));
            System.arraycopy(bytes, 0, tape, 0, length);
            at = 0;
            fault = 0;
            faultPlace = NONE;
            named = 0;
            cellar.clear();
            deeds.size = 0;
            log.size = 0;
        }

        private void readLine(int sort) {
            int word = wordHere(sort);
            int wordPlace = start;
            if (word == NONE) {
                stopHere();
                return;
            }
            step();
            for (int i = 0; i < NUMBERS[word]; i++) {
                if (kind != NUMBER) {
                    stopHere();
                    return;
                }
                numbers[i] = value;
                places[i] = start;
                step();
            }
            if (kind != STOP) {
                stopHere();
                return;
            }
            step();
            judge(word, wordPlace);
            // what a text with a fault tells is dropped in any case
            if (fault == 0) {
                tell(word);
            }
        }

        /** A text that can't go on has this fault alone, whatever was noted of it before. */
        private void stopHere() {
            fault = 1;
            faultPlace = start;
        }

        /** Lines are judged by rising places, so the first that is noted stays. */
        private void note(int which, int place) {
            if (fault == 0) {
                fault = which;
                faultPlace = place;
            }
        }

        private void judge(int word, int wordPlace) {
            if (isFullFor(word)) {
                note(3, wordPlace);
            }
            for (int i = 0; i < NUMBERS[word]; i++) {
                int range = word * MOST_NUMBERS + i;
                if (numbers[i] < LOW[range] || numbers[i] > HIGH[range]) {
                    note(2, places[i]);
                }
            }
            if (word == ANSWERS && numbers[0] == numbers[1]) {
                note(2, places[1]);
            }
        }

        private boolean isFullFor(int word) {
            if (word == SAYING) {
                return cellar.isFull();
            }
            if (word == HEARD) {
                return log.isFull();
            }
            return word >= YEAR && deeds.isFull();
        }

        private void tell(int word) {
            switch (word) {
                case SHOCK: cellar.shock = numbers[0]; break;
                case REACH: cellar.reach = numbers[0]; break;
                case SAYING: cellar.add(numbers); break;
                case ANSWERS:
                    cellar.addAnswer(numbers[0], numbers[1]);
                    named |= 1 << numbers[0] | 1 << numbers[1];
                    break;
                case HEARD: log.add(numbers[0], numbers[1]); break;
                default:
                    deeds.add(word - YEAR, NUMBERS[word] > 0 ? numbers[0] : NONE,
                            NUMBERS[word] > 1 ? numbers[1] : NONE);
                    break;
            }
        }

        private void step() {
            while (at < length && (tape[at] == ' ' || tape[at] == '\n')) {
                at++;
            }
            start = at;
            if (at >= length) {
                kind = TEXT_END;
            } else if (isLetter(tape[at])) {
                kind = WORD;
                while (at < length && isLetter(tape[at])) {
                    at++;
                }
            } else if (isDigit(tape[at])) {
                stepNumber();
            } else {
                kind = tape[at] == ';' ? STOP : ODD;
                at++;
            }
        }

        private void stepNumber() {
            value = 0;
            while (at < length && isDigit(tape[at])) {
                // a longer row of digits wraps around, which no one sees: it is no number
                value = value * 10 + tape[at] - '0';
                at++;
            }
            kind = at - start <= 2 ? NUMBER : ODD;
        }

        private static boolean isLetter(int sign) {
            return sign >= 'a' && sign <= 'z';
        }

        private static boolean isDigit(int sign) {
            return sign >= '0' && sign <= '9';
        }

        private int wordHere(int sort) {
            for (int word = 0; kind == WORD && word < WORDS; word++) {
                if (SORT_OF[word] == sort && isHere(spelling(word))) {
                    return word;
                }
            }
            return NONE;
        }

        private boolean isHere(String spelling) {
            if (at - start != spelling.length()) {
                return false;
            }
            for (int i = 0; i < spelling.length(); i++) {
                if (tape[start + i] != spelling.charAt(i)) {
                    return false;
                }
            }
            return true;
        }

        private static String spelling(int word) {
            switch (word) {
                case SHOCK: return "shock";
                case REACH: return "reach";
                case SAYING: return "saying";
                case ANSWERS: return "answers";
                case YEAR + Deeds.YEAR: return "year";
                case YEAR + Deeds.OPEN: return "open";
                case YEAR + Deeds.WIRING: return "wire";
                case YEAR + Deeds.TAINT: return "taint";
                case YEAR + Deeds.MOVE: return "move";
                case HEARD: return "heard";
                default: return "";
            }
        }
    }

    /** A cellar as it goes through years and deeds. */
    private static final class Run {
        private static final int MULTIPLIER = 1103515245;
        private static final int ADDEND = 12345;

        int year;
        int bursts;
        int gone;
        int reach;
        int shock;
        final int[] burstsIn = new int[LAST_YEAR + 1];
        int fond;
        int waste;
        int spoilt;
        int moves;
        private Cellar cellar = new Cellar();
        private int heard;
        private int wired;
        private int tainted;
        private int fondWit;
        private int seed;
        private final int[] wit = new int[MOST_SAYINGS];
        private final int[] fizz = new int[MOST_SAYINGS];
        private final int[] cork = new int[MOST_SAYINGS];
        private final int[] place = new int[MOST_SAYINGS];

        void begin(Cellar c) {
            cellar = c;
            reach = c.reach;
            shock = c.shock;
            System.arraycopy(c.wit, 0, wit, 0, MOST_SAYINGS);
            System.arraycopy(c.fizz, 0, fizz, 0, MOST_SAYINGS);
            System.arraycopy(c.cork, 0, cork, 0, MOST_SAYINGS);
            System.arraycopy(c.place, 0, place, 0, MOST_SAYINGS);
            year = 0;
            heard = 0;
            bursts = 0;
            gone = 0;
            wired = 0;
            tainted = 0;
            for (int y = 0; y <= LAST_YEAR; y++) {
                burstsIn[y] = 0;
            }
            fond = NONE;
            fondWit = NONE;
            waste = 0;
            spoilt = 0;
            moves = 0;
        }

        /** How many of the first n deeds could be, up to the first that can't. */
        int follow(Deeds d, int n) {
            for (int k = 0; k < n && k < d.size; k++) {
                if (!did(d.kind[k], d.saying[k], d.place[k])) {
                    return k;
                }
            }
            return Math.min(n, d.size);
        }

        boolean did(int kind, int s, int spot) {
            if (kind == Deeds.YEAR) {
                return passedYear();
            }
            if (!cellar.has(s) || in(gone, s)) {
                return false;
            }
            switch (kind) {
                case Deeds.OPEN: openUp(s); return true;
                case Deeds.WIRING: return wiredDown(s);
                case Deeds.TAINT: return becameTainted(s);
                case Deeds.MOVE: return movedTo(s, spot);
                default: return false;
            }
        }

        void passYears(int n) {
            for (int i = 0; i < n; i++) {
                passedYear();
            }
        }

        void draw(int from, int n) {
            seed = from;
            for (int i = 0; i < n; i++) {
                int kind = kindDrawn(below(10));
                if (kind == Deeds.YEAR) {
                    passedYear();
                } else if (cellar.sayings > 0) {
                    int s = below(cellar.sayings);
                    did(kind, s, kind == Deeds.MOVE ? below(LAST_PLACE + 1) : NONE);
                }
            }
        }

        /** What the document's state() tells, by its numbers. */
        int look(int what) {
            switch (what) {
                case 0: return year;
                case 1: return heard;
                case 2: return bursts;
                case 3: return gone;
                case 4: return wired;
                case 5: return tainted;
                default: break;
            }
            int s = what % 10;
            if (what < 0 || !cellar.has(s)) {
                return NONE;
            }
            switch (what / 10) {
                case 1: return wit[s];
                case 2: return fizz[s];
                case 3: return cork[s];
                case 4: return place[s];
                default: return NONE;
            }
        }

        int firstBurstYear() {
            for (int y = 1; y <= LAST_YEAR; y++) {
                if (burstsIn[y] > 0) {
                    return y;
                }
            }
            return NONE;
        }

        int mostBurstYear() {
            int most = 0;
            int inYear = NONE;
            for (int y = 1; y <= LAST_YEAR; y++) {
                if (burstsIn[y] > most) {
                    most = burstsIn[y];
                    inYear = y;
                }
            }
            return inYear;
        }

        private boolean passedYear() {
            if (year >= LAST_YEAR) {
                return false;
            }
            for (int s = 0; s < cellar.sayings; s++) {
                if (!in(gone, s)) {
                    wit[s] = Math.max(0, wit[s] - cellar.fade[s]);
                    fizz[s] += cellar.rise[s];
                }
            }
            year++;
            int s = firstToBurst();
            for (int i = 0; i < MOST_SAYINGS && s != NONE; i++) {
                burst(s);
                s = firstToBurst();
            }
            return true;
        }

        private int firstToBurst() {
            for (int s = 0; s < cellar.sayings; s++) {
                if (fizz[s] > cork[s] && !in(gone, s)) {
                    return s;
                }
            }
            return NONE;
        }

        private void burst(int s) {
            gone |= 1 << s;
            bursts++;
            burstsIn[year]++;
            waste += wit[s];
            for (int t = 0; t < cellar.sayings; t++) {
                if (!in(gone, t) && Math.abs(place[t] - place[s]) <= reach) {
                    fizz[t] += shock;
                }
            }
        }

        private void openUp(int s) {
            gone |= 1 << s;
            if (in(tainted, s)) {
                spoilt++;
                return;
            }
            heard += wit[s];
            if (wit[s] > fondWit || (wit[s] == fondWit && s < fond)) {
                fond = s;
                fondWit = wit[s];
            }
        }

        private boolean wiredDown(int s) {
            if (in(wired, s)) {
                return false;
            }
            wired |= 1 << s;
            cork[s] += WIRE;
            return true;
        }

        private boolean becameTainted(int s) {
            if (in(tainted, s)) {
                return false;
            }
            tainted |= 1 << s;
            return true;
        }

        private boolean movedTo(int s, int spot) {
            if (place[s] == spot) {
                return false;
            }
            place[s] = spot;
            moves++;
            return true;
        }

        private int below(int n) {
            seed = seed * MULTIPLIER + ADDEND;
            return n > 0 ? (seed >>> 16) % n : 0;
        }

        private static int kindDrawn(int number) {
            switch (number) {
                case 4: case 5: return Deeds.OPEN;
                case 6: return Deeds.WIRING;
                case 7: return Deeds.TAINT;
                case 8: case 9: return Deeds.MOVE;
                default: return Deeds.YEAR;
            }
        }
    }

    /**
     * Trains of a cellar as told. Which are gone in the end does not hang on the order of the bursts: a saying
     * bursts as soon as so many have burst near it as it needs.
     */
    private static final class Trains {
        /** More than can ever be near one. */
        private static final int NEVER = 7;

        int sayings;
        final int[] need = new int[MOST_SAYINGS];
        private int reach;
        private final int[] near = new int[MOST_SAYINGS];
        private final int[] spots = new int[MOST_SAYINGS];

        void lookAt(Cellar c) {
            sayings = c.sayings;
            reach = c.reach;
            for (int s = 0; s < sayings; s++) {
                need[s] = needOf(c, s);
                spots[s] = c.place[s];
            }
            layOut();
        }

        private static int needOf(Cellar c, int s) {
            if (c.fizz[s] > c.cork[s]) {
                return 0;
            }
            return c.shock > 0 ? Math.min(NEVER, (c.cork[s] - c.fizz[s]) / c.shock + 1) : NEVER;
        }

        private void layOut() {
            for (int s = 0; s < sayings; s++) {
                lay(s, spots[s]);
            }
        }

        /** Behind all lesser ones, which are laid already; none of the greater ones is. */
        void lay(int s, int spot) {
            spots[s] = spot;
            near[s] = 0;
            for (int t = 0; t < s; t++) {
                if (Math.abs(spots[t] - spot) <= reach) {
                    near[s] |= 1 << t;
                    near[t] |= 1 << s;
                }
            }
        }

        void takeUp(int s) {
            near[s] = 0;
            for (int t = 0; t < s; t++) {
                near[t] &= ~(1 << s);
            }
        }

        int from(int first) {
            int gone = 1 << first;
            int before = 0;
            for (int pass = 0; pass < sayings && gone != before; pass++) {
                before = gone;
                for (int s = 0; s < sayings; s++) {
                    if (!in(gone, s) && Integer.bitCount(near[s] & gone) >= need[s]) {
                        gone |= 1 << s;
                    }
                }
            }
            return gone;
        }

        /** The greatest number in any train; it is not looked for beyond what is enough. */
        int greatest(int enough) {
            int most = 0;
            for (int s = 0; s < sayings && most < enough; s++) {
                most = Math.max(most, Integer.bitCount(from(s)));
            }
            return most;
        }

        int ruin(Cellar c) {
            int most = NONE;
            int worst = NONE;
            for (int s = 0; s < sayings; s++) {
                int lost = Look.witOf(c, from(s));
                if (lost > most) {
                    most = lost;
                    worst = s;
                }
            }
            return worst;
        }

        int ruinWit(Cellar c) {
            int worst = ruin(c);
            return worst == NONE ? 0 : Look.witOf(c, from(worst));
        }

        int rows() {
            int rows = 0;
            int seen = 0;
            for (int s = 0; s < sayings; s++) {
                if (!in(seen, s)) {
                    seen |= rowOf(s);
                    rows++;
                }
            }
            return rows;
        }

        int largestRow() {
            int most = 0;
            for (int s = 0; s < sayings; s++) {
                most = Math.max(most, Integer.bitCount(rowOf(s)));
            }
            return most;
        }

        private int rowOf(int first) {
            int row = 1 << first;
            for (int pass = 0; pass < sayings; pass++) {
                for (int s = 0; s < sayings; s++) {
                    if (in(row, s)) {
                        row |= near[s];
                    }
                }
            }
            return row;
        }

        int cut() {
            int all = (1 << sayings) - 1;
            int best = all;
            for (int away = 0; away < all; away++) {
                if (Integer.bitCount(away) < Integer.bitCount(best) && isCalmWithout(away)) {
                    best = away;
                }
            }
            return best;
        }

        /** The first that a train takes bursts by its first saying alone, so pairs tell whether it takes any. */
        private boolean isCalmWithout(int away) {
            for (int s = 0; s < sayings; s++) {
                for (int t = 0; t < sayings; t++) {
                    boolean both = s != t && !in(away, s) && !in(away, t);
                    if (both && need[t] <= (in(near[t], s) ? 1 : 0)) {
                        return false;
                    }
                }
            }
            return true;
        }

        int pair() {
            int least = greatest(sayings);
            int best = NONE;
            for (int a = 0; a < sayings; a++) {
                for (int b = a + 1; b < sayings; b++) {
                    exchange(a, b);
                    int number = greatest(least);
                    if (number < least) {
                        least = number;
                        best = 10 * a + b;
                    }
                    exchange(a, b);
                }
            }
            return best;
        }

        private void exchange(int a, int b) {
            int spot = spots[a];
            spots[a] = spots[b];
            spots[b] = spot;
            layOut();
        }
    }

    /** The best laying, saying by saying; a train only grows as more are laid, so a bad beginning is left at once. */
    private static final class Laying {
        int best;
        final int[] row = new int[MOST_SAYINGS];
        private final Trains trains = new Trains();
        private final int[] places = new int[MOST_SAYINGS];
        /** By saying: which of the places it has in the row that is tried. */
        private final int[] taken = new int[MOST_SAYINGS];
        /** By place: is it near the same ones as the place before it? Then a number stays if the two are changed. */
        private int twins;
        private int used;
        private int least;
        private int known = NONE;

        void forget() {
            known = NONE;
        }

        void find(int number, Cellar c) {
            if (known == number) {
                return;
            }
            known = number;
            trains.lookAt(c);
            for (int s = 0; s < c.sayings; s++) {
                trains.takeUp(s);
            }
            sortPlaces(c);
            findTwins(c);
            used = 0;
            best = c.sayings + 1;
            // with none near another: no laying has less
            least = trains.greatest(best);
            settle(this, 0, least);
        }

        private void sortPlaces(Cellar c) {
            for (int s = 0; s < c.sayings; s++) {
                int at = s;
                while (at > 0 && places[at - 1] > c.place[s]) {
                    places[at] = places[at - 1];
                    at--;
                }
                places[at] = c.place[s];
            }
        }

        private void findTwins(Cellar c) {
            twins = 0;
            for (int i = 1; i < c.sayings; i++) {
                boolean alike = true;
                for (int k = 0; k < c.sayings; k++) {
                    boolean nearThis = Math.abs(places[k] - places[i]) <= c.reach;
                    boolean nearThat = Math.abs(places[k] - places[i - 1]) <= c.reach;
                    alike = alike && nearThis == nearThat;
                }
                twins |= alike ? 1 << i : 0;
            }
        }

        private static void settle(Laying l, int s, int number) {
            if (s >= l.trains.sayings) {
                l.keep(number);
                return;
            }
            for (int i = l.firstPlaceFor(s); i < l.trains.sayings && l.best > l.least; i++) {
                if (!l.isNextFree(i)) {
                    continue;
                }
                l.used |= 1 << i;
                l.taken[s] = i;
                l.trains.lay(s, l.places[i]);
                int soFar = l.trains.greatest(l.best);
                if (soFar < l.best) {
                    settle(l, s + 1, soFar);
                }
                l.trains.takeUp(s);
                l.used &= ~(1 << i);
            }
        }

        private void keep(int number) {
            best = number;
            for (int s = 0; s < trains.sayings; s++) {
                row[s] = places[taken[s]];
            }
        }

        /** Sayings of one need may change places and no number changes, so in the first row theirs rise. */
        private int firstPlaceFor(int s) {
            for (int t = s - 1; t >= 0; t--) {
                if (trains.need[t] == trains.need[s]) {
                    return taken[t] + 1;
                }
            }
            return 0;
        }

        /** Of twins only the first that is free: the first row by numbers has theirs rising. */
        private boolean isNextFree(int i) {
            boolean behindFreeTwin = in(twins, i) && !in(used, i - 1);
            return !in(used, i) && !behindFreeTwin;
        }
    }

    /** What is best to be opened or said one behind the other, by tables over which have been. */
    private static final class Orders {
        private static final int SETS = 128;
        private static final int LASTS = 8;

        int worth;
        int move;
        final int[] row = new int[MOST_PLAN_YEARS];
        private int length;
        private final int[] table = new int[(MOST_PLAN_YEARS + 1) * SETS];
        private final int[] lives = new int[MOST_SAYINGS];

        int worthOrNumber(int k) {
            if (k == NONE) {
                return worth;
            }
            return k >= 0 && k < length ? row[k] : NONE;
        }

        void bestPlan(Cellar c, int n) {
            for (int s = 0; s < c.sayings; s++) {
                int life = c.lifeOf(s);
                lives[s] = life == NONE ? LAST_YEAR + 1 : life;
            }
            for (int opened = 0; opened <= c.all(); opened++) {
                table[n * SETS + opened] = 0;
            }
            for (int year = n - 1; year >= 0; year--) {
                for (int opened = 0; opened <= c.all(); opened++) {
                    if (Integer.bitCount(opened) <= year) {
                        table[year * SETS + opened] = worthFrom(c, year, opened, bestOf(c, year, opened));
                    }
                }
            }
            worth = table[0];
            int opened = 0;
            for (int year = 0; year < n; year++) {
                row[year] = bestOf(c, year, opened);
                opened = with(opened, row[year]);
            }
        }

        private static int with(int opened, int s) {
            return s == NOTHING ? opened : opened | 1 << s;
        }

        private int worthFrom(Cellar c, int year, int opened, int s) {
            int now = s == NOTHING ? 0 : c.witIn(s, year);
            return now + table[(year + 1) * SETS + with(opened, s)];
        }

        private int bestOf(Cellar c, int year, int opened) {
            int best = NOTHING;
            int most = worthFrom(c, year, opened, NOTHING);
            for (int s = c.sayings - 1; s >= 0; s--) {
                if (!in(opened, s) && lives[s] > year && worthFrom(c, year, opened, s) >= most) {
                    most = worthFrom(c, year, opened, s);
                    best = s;
                }
            }
            return best;
        }

        /** The longest talk, or the best dinner. */
        void bestRow(Cellar c, boolean talking) {
            for (int said = c.all(); said > 0; said--) {
                for (int last = 0; last < c.sayings; last++) {
                    if (in(said, last)) {
                        int s = bestBehind(c, talking, said, last);
                        table[said * LASTS + last] = s == NOTHING ? 0 : worthOnward(c, talking, said, last, s);
                    }
                }
            }
            worth = 0;
            length = 0;
            int said = 0;
            int last = NOTHING;
            for (int k = 0; k < c.sayings; k++) {
                int s = bestBehind(c, talking, said, last);
                if (s == NOTHING) {
                    break;
                }
                worth = k == 0 ? worthOnward(c, talking, said, last, s) : worth;
                row[k] = s;
                length++;
                said |= 1 << s;
                last = s;
            }
        }

        private int bestBehind(Cellar c, boolean talking, int said, int last) {
            int best = NOTHING;
            int most = NONE;
            for (int s = 0; s < c.sayings; s++) {
                boolean may = !in(said, s) && (!talking || last == NOTHING || in(c.answers[s], last));
                if (may && worthOnward(c, talking, said, last, s) > most) {
                    most = worthOnward(c, talking, said, last, s);
                    best = s;
                }
            }
            return best;
        }

        private int worthOnward(Cellar c, boolean talking, int said, int last, int s) {
            int now = talking ? 1 : worthBehind(c, last, s);
            return now + table[(said | 1 << s) * LASTS + s];
        }

        private static int worthBehind(Cellar c, int last, int s) {
            boolean twice = last != NOTHING && in(c.answers[s], last);
            return twice ? 2 * c.wit[s] : c.wit[s];
        }

        /** The duel from its last turn to its first: the table has how much more the one whose turn it is gets. */
        void playOut(Cellar c, int n) {
            worth = 0;
            move = NONE;
            for (int i = 0; i < SETS * LASTS; i++) {
                table[i] = 0;
            }
            for (int left = 1; left < n; left++) {
                playTurn(c, n, left);
            }
            if (n > 0) {
                move = bestMove(c, 0, NOTHING);
                worth = lead(c, 0, NOTHING, move);
            }
        }

        /** Greater sets stand later in the table, so they still tell of one turn less when a set asks for them. */
        private void playTurn(Cellar c, int n, int left) {
            for (int opened = 0; opened <= c.all(); opened++) {
                if (Integer.bitCount(opened) > n - left) {
                    continue;
                }
                for (int last = 0; last <= NOTHING; last++) {
                    boolean may = last == NOTHING ? opened == 0 : in(opened, last);
                    if (may) {
                        table[opened * LASTS + last] = lead(c, opened, last, bestMove(c, opened, last));
                    }
                }
            }
        }

        private int bestMove(Cellar c, int opened, int last) {
            int best = NOTHING;
            int most = lead(c, opened, last, NOTHING);
            for (int s = c.sayings - 1; s >= 0; s--) {
                if (!in(opened, s) && lead(c, opened, last, s) >= most) {
                    most = lead(c, opened, last, s);
                    best = s;
                }
            }
            return best;
        }

        private int lead(Cellar c, int opened, int last, int s) {
            if (s == NOTHING) {
                return -table[opened * LASTS + last];
            }
            return worthBehind(c, last, s) - table[(opened | 1 << s) * LASTS + s];
        }
    }

    /** Which laws fit a log. */
    private static final class Laws {
        private static final int LAWS = 100;
        /** How many burst in a year is 7 at most. */
        private static final int BITS = 3;
        private static final int MASK = 7;

        int size;
        final int[] fitting = new int[LAWS];
        private final Run run = new Run();
        /** By cellar and law: how many burst in each year. */
        private final long[] histories = new long[MOST_OF_SORT * LAWS];
        private final boolean[] known = new boolean[MOST_OF_SORT];
        private final int[] tally = new int[MOST_SAYINGS + 1];
        private int base;

        void forget() {
            for (int i = 0; i < MOST_OF_SORT; i++) {
                known[i] = false;
            }
        }

        void find(int number, Cellar c, Log log) {
            size = 0;
            if (number < 0 || number >= MOST_OF_SORT) {
                return;
            }
            base = number * LAWS;
            if (!known[number]) {
                learn(c);
                known[number] = true;
            }
            for (int law = 0; law < LAWS; law++) {
                if (doesFit(law, log)) {
                    fitting[size] = law;
                    size++;
                }
            }
        }

        private void learn(Cellar c) {
            for (int law = 0; law < LAWS; law++) {
                run.begin(c);
                run.reach = law / 10;
                run.shock = law % 10;
                long history = 0;
                run.passYears(LAST_FACT_YEAR);
                for (int year = 1; year <= LAST_FACT_YEAR; year++) {
                    history |= (long) run.burstsIn[year] << BITS * year;
                }
                histories[base + law] = history;
            }
        }

        private int burstsBy(int law, int year) {
            return (int) (histories[base + law] >>> BITS * year) & MASK;
        }

        private boolean doesFit(int law, Log log) {
            for (int k = 0; k < log.size; k++) {
                if (burstsBy(law, log.year[k]) != log.heard[k]) {
                    return false;
                }
            }
            return true;
        }

        int sureReach() {
            // laws rise by their reach
            boolean sure = size > 0 && fitting[0] / 10 == fitting[size - 1] / 10;
            return sure ? fitting[0] / 10 : NONE;
        }

        int sureShock() {
            return leastShock() == greatestShock() ? leastShock() : NONE;
        }

        int leastShock() {
            int least = size > 0 ? fitting[0] % 10 : NONE;
            for (int k = 0; k < size; k++) {
                least = Math.min(least, fitting[k] % 10);
            }
            return least;
        }

        int greatestShock() {
            int greatest = NONE;
            for (int k = 0; k < size; k++) {
                greatest = Math.max(greatest, fitting[k] % 10);
            }
            return greatest;
        }

        int sizeOfReach(int reach) {
            int many = 0;
            for (int k = 0; k < size; k++) {
                if (fitting[k] / 10 == reach) {
                    many++;
                }
            }
            return many;
        }

        int yearToAsk() {
            int least = LAWS + 1;
            int best = NONE;
            for (int year = 1; size > 0 && year <= LAST_FACT_YEAR; year++) {
                int alike = mostAlike(year);
                if (alike < least) {
                    least = alike;
                    best = year;
                }
            }
            return best;
        }

        private int mostAlike(int year) {
            for (int many = 0; many <= MOST_SAYINGS; many++) {
                tally[many] = 0;
            }
            int most = 0;
            for (int k = 0; k < size; k++) {
                int many = burstsBy(fitting[k], year);
                tally[many]++;
                most = Math.max(most, tally[many]);
            }
            return most;
        }
    }

    /** What a cellar as told shows without bursts. */
    private static final class Look {
        private Look() {
        }

        static int wittiest(Cellar c) {
            int best = NONE;
            for (int s = 0; s < c.sayings; s++) {
                if (best == NONE || c.wit[s] > c.wit[best]) {
                    best = s;
                }
            }
            return best;
        }

        static int liveliest(Cellar c) {
            int best = NONE;
            for (int s = 0; s < c.sayings; s++) {
                if (best == NONE || c.fizz[s] - c.cork[s] > c.fizz[best] - c.cork[best]) {
                    best = s;
                }
            }
            return best;
        }

        static int witOfAll(Cellar c, int year) {
            int sum = 0;
            for (int s = 0; s < c.sayings; s++) {
                sum += c.witIn(s, year);
            }
            return sum;
        }

        static int witOf(Cellar c, int bits) {
            int sum = 0;
            for (int s = 0; s < c.sayings; s++) {
                if (in(bits, s)) {
                    sum += c.wit[s];
                }
            }
            return sum;
        }

        static int witless(Cellar c, int year) {
            int many = 0;
            for (int s = 0; s < c.sayings; s++) {
                if (c.witIn(s, year) == 0) {
                    many++;
                }
            }
            return many;
        }

        static int goodYear(Cellar c) {
            int first = witOfAll(c, 0);
            for (int year = 0; year <= LAST_YEAR; year++) {
                if (2 * witOfAll(c, year) < first) {
                    return year;
                }
            }
            return NONE;
        }

        static int closest(Cellar c) {
            int best = NONE;
            int least = LAST_PLACE + 1;
            for (int a = 0; a < c.sayings; a++) {
                for (int b = a + 1; b < c.sayings; b++) {
                    int gap = Math.abs(c.place[a] - c.place[b]);
                    if (gap < least) {
                        least = gap;
                        best = 10 * a + b;
                    }
                }
            }
            return best;
        }

        static int closestGap(Cellar c) {
            int two = closest(c);
            return two == NONE ? 0 : Math.abs(c.place[two / 10] - c.place[two % 10]);
        }

        static int earliest(Cellar c) {
            int best = NONE;
            int least = LAST_YEAR + 1;
            for (int s = 0; s < c.sayings; s++) {
                int life = c.lifeOf(s);
                if (life != NONE && life < least) {
                    least = life;
                    best = s;
                }
            }
            return best;
        }

        static int lasting(Cellar c) {
            int bits = 0;
            for (int s = 0; s < c.sayings; s++) {
                if (c.lifeOf(s) == NONE) {
                    bits |= 1 << s;
                }
            }
            return bits;
        }

        static int mute(Cellar c) {
            int heard = 0;
            for (int s = 0; s < c.sayings; s++) {
                if (c.answers[s] != 0) {
                    heard |= c.answers[s] | 1 << s;
                }
            }
            return c.all() & ~heard;
        }

        /** The shortest way from any saying back to itself meets none twice, so ways need not be told apart. */
        static int ring(Cellar c) {
            int shortest = NONE;
            for (int s = 0; s < c.sayings; s++) {
                int ends = 1 << s;
                for (int steps = 1; steps <= c.sayings; steps++) {
                    ends = answeredBy(c, ends);
                    if (in(ends, s) && (shortest == NONE || steps < shortest)) {
                        shortest = steps;
                    }
                }
            }
            return shortest;
        }

        private static int answeredBy(Cellar c, int bits) {
            int answered = 0;
            for (int s = 0; s < c.sayings; s++) {
                if (in(bits, s)) {
                    answered |= c.answers[s];
                }
            }
            return answered;
        }

        /** As long as nothing bursts no saying touches another, so each needs its wire or not by itself. */
        static int wiresFor(Cellar c, int years) {
            int bits = 0;
            for (int s = 0; s < c.sayings && years > 0; s++) {
                int over = c.fizz[s] + c.rise[s] * years - c.cork[s];
                if (over > WIRE) {
                    return NONE;
                }
                if (over > 0) {
                    bits |= 1 << s;
                }
            }
            return bits;
        }

        static int bestApart(Cellar c, int k) {
            int best = NONE;
            int most = NONE;
            for (int bits = 0; bits <= c.all(); bits++) {
                boolean may = Integer.bitCount(bits) == k && (answeredBy(c, bits) & bits) == 0;
                if (may && witOf(c, bits) > most) {
                    most = witOf(c, bits);
                    best = bits;
                }
            }
            return best;
        }
    }
}
