import java.util.Arrays;
import java.util.Random;

/** Layings of cellars by seeds, held against all rows of their places, first row first. */
public final class LayingTest {
    private static final Teller T = new Teller();

    public static void main(String[] args) {
        int cellars = args.length > 0 ? Integer.parseInt(args[0]) : 1500;
        Random dice = new Random(args.length > 1 ? Long.parseLong(args[1]) : 11);
        CorkedTalk x = new CorkedTalk();
        for (int i = 0; i < cellars; i++) {
            // one object for several cellars, so that what is left of the one before is seen
            if (i % 15 == 0) x = new CorkedTalk();
            hold(x, i % 15 == 0 ? CorkedTalk.NONE : 0, dice);
        }
        T.finish("LayingTest");
    }

    private static void hold(CorkedTalk x, int at, Random dice) {
        int n = dice.nextInt(4) == 0 ? dice.nextInt(8) : 7;
        int shock = dice.nextInt(4) == 0 ? dice.nextInt(10) : 1 + dice.nextInt(4);
        int reach = dice.nextInt(10);
        int spread = 1 + dice.nextInt(21);
        int most = 1 + dice.nextInt(9);
        int[] fizz = new int[n];
        int[] cork = new int[n];
        int[] place = new int[n];
        StringBuilder text = new StringBuilder("shock " + shock + "; reach " + reach + ";");
        for (int s = 0; s < n; s++) {
            fizz[s] = 2 + dice.nextInt(20);
            // few burst by themselves, lest all trains be alike
            int above = dice.nextInt(12) == 0 ? -1 : dice.nextInt(most) * (1 + dice.nextInt(2));
            cork[s] = fizz[s] + above;
            place[s] = dice.nextInt(spread);
            text.append("saying 1 0 ").append(fizz[s]).append(" 0 ").append(cork[s]).append(' ').append(place[s]).append(';');
        }
        T.due("text(0, " + at + "): " + text, 0, Teller.tell(x, 0, at, text.toString()));
        Arrays.sort(place);
        int least = n + 1;
        int[] best = new int[n];
        do {
            int number = greatest(fizz, cork, place, shock, reach);
            if (number < least) {
                least = number;
                best = place.clone();
            }
        } while (nextRow(place));
        T.due(text + " laying(0, NONE)", least, x.laying(0, CorkedTalk.NONE));
        for (int s = 0; s < n; s++) {
            T.due(text + " laying(0, " + s + ")", best[s], x.laying(0, s));
        }
    }

    private static int greatest(int[] fizz, int[] cork, int[] place, int shock, int reach) {
        int most = 0;
        for (int s = 0; s < fizz.length; s++) {
            most = Math.max(most, train(fizz.clone(), cork, place, shock, reach, s));
        }
        return most;
    }

    private static int train(int[] fizz, int[] cork, int[] place, int shock, int reach, int first) {
        boolean[] gone = new boolean[fizz.length];
        int many = 0;
        int s = first;
        while (s >= 0) {
            gone[s] = true;
            many++;
            int next = -1;
            for (int t = fizz.length - 1; t >= 0; t--) {
                if (!gone[t] && Math.abs(place[t] - place[s]) <= reach) fizz[t] += shock;
                if (!gone[t] && fizz[t] > cork[t]) next = t;
            }
            s = next;
        }
        return many;
    }

    /** The next row by numbers of the same places. */
    private static boolean nextRow(int[] row) {
        int i = row.length - 2;
        while (i >= 0 && row[i] >= row[i + 1]) i--;
        if (i < 0) return false;
        int j = row.length - 1;
        while (row[j] <= row[i]) j--;
        exchange(row, i, j);
        for (int low = i + 1, high = row.length - 1; low < high; low++, high--) exchange(row, low, high);
        return true;
    }

    private static void exchange(int[] row, int i, int j) {
        int kept = row[i];
        row[i] = row[j];
        row[j] = kept;
    }
}
