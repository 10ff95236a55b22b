import java.lang.management.ManagementFactory;
import java.lang.reflect.Method;
import java.util.ArrayList;
import java.util.Comparator;
import java.util.List;
import java.util.Random;

/** Whatever the arguments and the state: no call throws, the same calls give the same answers, and none takes room. */
public final class AnyArgumentsTest {
    private static final int[] EDGES = {Integer.MIN_VALUE, Integer.MIN_VALUE + 1, -1000, -999, -11, -10, -9, -2, -1, 0, 1, 2, 3,
        4, 5, 6, 7, 8, 9, 10, 11, 16, 17, 18, 19, 20, 21, 26, 27, 39, 40, 41, 49, 50, 51, 59, 60, 61, 69, 70, 76, 77, 79, 80,
        99, 100, 109, 110, 599, 600, 601, Integer.MAX_VALUE - 1, Integer.MAX_VALUE};
    private static final String[] CELLARS = {"", "saying 1 1 1 1 1 1;",
        "shock 9;reach 9;" + "saying 30 5 30 5 1 20;".repeat(7) + "answers 0 1;answers 1 0;answers 6 5;",
        "shock 0;reach 0;" + "saying 0 0 0 0 40 0;".repeat(7), "shock 1;reach 9;saying 9 1 5 1 9 0;saying 3 0 5 2 7 9;"
        + "saying 8 2 4 1 12 18;saying 5 5 1 1 9 20;saying 4 0 9 3 30 3;saying 2 0 3 1 8 4;saying 9 4 9 0 12 11;answers 6 0;",
        "shock 4;reach 2;saying 7 1 5 1 9 0;saying 9 0 9 0 9 1;saying 12 3 3 1 6 4;saying 4 0 8 2 20 5;answers 0 1;answers 1 2;answers 2 0;answers 3 0;"};
    private static final String[] YEARS = {"", "year;".repeat(40), "wire 6;move 6 0;taint 6;year;open 6;year;open 5;open 0;year;"};
    private static final String[] LOGS = {"", "heard 20 7;", "heard 1 7;heard 1 7;", "heard 1 0;heard 20 0;", "heard 1 0;".repeat(8)};
    private static final Teller TELLER = new Teller();

    public static void main(String[] args) throws Exception {
        List<Method> calls = new ArrayList<>();
        for (Method call : CorkedTalk.class.getDeclaredMethods()) {
            if (java.lang.reflect.Modifier.isPublic(call.getModifiers())) {
                calls.add(call);
            }
        }
        // the machine names them in no order of its own
        calls.sort(Comparator.comparing(Method::getName));
        TELLER.due("public methods", 30, calls.size());
        for (int run = 0; run < 300; run++) {
            goThrough(run, calls);
        }
        for (int run = 0; run < 100; run++) {
            askBesideFreshOnes(run, calls);
        }
        roomOfDearestCalls();
        TELLER.finish("AnyArgumentsTest");
    }

    private static void goThrough(int run, List<Method> calls) throws Exception {
        Random dice = new Random(run);
        CorkedTalk one = new CorkedTalk();
        CorkedTalk other = new CorkedTalk();
        for (int i = 0; i < 512; i++) {
            if (i % 60 == 0) {
                tell(one, new Random(run * 1000L + i));
                tell(other, new Random(run * 1000L + i));
            }
            Method call = calls.get(dice.nextInt(calls.size()));
            Object[] with = new Object[call.getParameterCount()];
            for (int k = 0; k < with.length; k++) {
                boolean likely = k < 2 && dice.nextInt(3) > 0;
                with[k] = call.getParameterTypes()[k] == boolean.class ? (Object) dice.nextBoolean()
                    : likely ? (Object) dice.nextInt(2) : (Object) EDGES[dice.nextInt(EDGES.length)];
            }
            Object first = call.invoke(one, with);
            Object second = call.invoke(other, with);
            TELLER.due("run " + run + ": " + call.getName() + " twice the same", true, first.equals(second));
        }
    }

    /** What was asked before leaves nothing behind: an object that is told the same and asked for the first time answers alike. */
    private static void askBesideFreshOnes(int run, List<Method> calls) throws Exception {
        Random dice = new Random(-1 - run);
        int[] texts = {dice.nextInt(CELLARS.length), dice.nextInt(CELLARS.length), dice.nextInt(YEARS.length), dice.nextInt(YEARS.length),
            dice.nextInt(LOGS.length), dice.nextInt(LOGS.length)};
        CorkedTalk asked = told(texts);
        for (int i = 0; i < 200; i++) {
            Method call = calls.get(dice.nextInt(calls.size()));
            if (List.of("feed", "end", "text", "image", "again").contains(call.getName())) {
                continue;
            }
            Object[] with = new Object[call.getParameterCount()];
            for (int k = 0; k < with.length; k++) {
                with[k] = call.getParameterTypes()[k] == boolean.class ? (Object) dice.nextBoolean()
                    : k == 0 ? (Object) dice.nextInt(2) : dice.nextInt(4) > 0 ? (Object) (dice.nextInt(12) - 1) : (Object) dice.nextInt(60);
            }
            TELLER.due("run " + run + ": " + call.getName() + " as of a fresh object", true,
                call.invoke(asked, with).equals(call.invoke(told(texts), with)));
        }
    }

    private static CorkedTalk told(int[] texts) {
        CorkedTalk x = new CorkedTalk();
        for (int i = 0; i < 6; i++) {
            String[] all = i < 2 ? CELLARS : i < 4 ? YEARS : LOGS;
            Teller.tell(x, i / 2, -1, all[texts[i]]);
        }
        return x;
    }

    private static void tell(CorkedTalk x, Random dice) {
        int at = dice.nextInt(3) - 1;
        Teller.tell(x, 0, at, CELLARS[dice.nextInt(CELLARS.length)]);
        Teller.tell(x, 1, at, YEARS[dice.nextInt(YEARS.length)]);
        Teller.tell(x, 2, at, LOGS[dice.nextInt(LOGS.length)]);
    }

    /** One room holds all that a run makes, so what a call makes would be counted 512 times. */
    private static void roomOfDearestCalls() {
        com.sun.management.ThreadMXBean room = (com.sun.management.ThreadMXBean) ManagementFactory.getThreadMXBean();
        long self = Thread.currentThread().getId();
        CorkedTalk x = new CorkedTalk();
        Teller.tell(x, 0, -1, CELLARS[4]);
        Teller.tell(x, 0, -1, CELLARS[2]);
        Teller.tell(x, 1, -1, YEARS[2]);
        Teller.tell(x, 2, -1, LOGS[3]);
        everyCall(x);
        long before = room.getThreadAllocatedBytes(self);
        int sum = 0;
        for (int i = 0; i < 16; i++) {
            sum += everyCall(x);
        }
        long made = room.getThreadAllocatedBytes(self) - before;
        TELLER.due("the sum is asked for", true, sum != 12345);
        TELLER.due("512 calls make next to nothing (" + made + " bytes)", true, made < 20000);
        before = room.getThreadAllocatedBytes(self);
        CorkedTalk[] many = new CorkedTalk[10];
        for (int i = 0; i < many.length; i++) {
            many[i] = new CorkedTalk();
        }
        made = room.getThreadAllocatedBytes(self) - before;
        TELLER.due("an object is small (" + made / 10 + " bytes)", true, made / 10 < 40000 && many[9].count(0) == 0);
    }

    private static int everyCall(CorkedTalk x) {
        int sum = x.feed(1, 2, 3, 4, 5) + x.end(0) + x.text(1, 0) + x.fault(0) + x.cellar(0, 76) + x.deed(0, 0, 0) + x.till(0, 0);
        sum += x.state(0, 0, 0, 13) + x.train(0, 3) + x.laying(0, 3) + x.laying(1, 3) + x.life(0, 3) + x.plan(0, 10, 3) + x.talk(0, 1);
        sum += x.dinner(0, 3) + x.wires(0, 3, true) + x.duel(0, 5, true) + (int) x.hold(0, 3, 2, 3, true) + x.fact(0, 0, 0);
        sum += x.fits(0, 0, 3) + x.drawn(0, 1, 60, 0) + x.flat(0, 3) + x.next(0, 50) + x.half(0, 3, true) + x.after(0, 0, 3);
        sum += x.odds(0, 0, 1, true) + x.shock(0, 0, true) + x.count(0);
        for (int what = 0; what < 19; what++) {
            sum += x.wit(0, what);
        }
        return sum + (x.image(0) ? 1 : 0) + (x.again(0) ? 1 : 0);
    }
}
