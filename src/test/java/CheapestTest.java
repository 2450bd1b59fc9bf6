import java.util.Arrays;
import java.util.Random;

/**
 * Promises 15 and 16 for schools of five spells (the same ones each time): for each set of pupils and each set of the
 * schools' effects, against how far every row there is lies from the end, made better until nothing gets better.
 */
public final class CheapestTest {
    private static final int MOST = 5, ROWS = 7776, FAR = Integer.MAX_VALUE / 2, WORD = 1, COST = 1000;
    private static final Check check = new Check("CheapestTest");

    // A row of spells is a number of five digits to the base 6, the lowest layer first: 0 none, s + 1 the spell s.
    private final int[] effect = new int[MOST];
    private final int[] glass = new int[MOST];
    private final int[] lay = new int[MOST];
    private final int[] lift = new int[MOST];
    private final int[] pupils = new int[3];
    private final int[] things = new int[4];
    private int swap;
    private final int[] far = new int[ROWS];

    public static void main(String[] args) {
        long seed = args.length > 0 ? Long.parseLong(args[0]) : 1;
        int schools = args.length > 1 ? Integer.parseInt(args[1]) : 40;
        for (int i = 0; i < schools; i++) {
            new CheapestTest().holdAll(new Random(seed * 1000 + i));
        }
        check.end();
    }

    private void holdAll(Random lot) {
        String text = school(lot);
        int[] least = new int[4 * 1024];
        Arrays.fill(least, SpellLayers.NONE);
        int all = 0;
        for (int one : effect) {
            all |= 1 << one;
        }
        for (int set = 0; set < 8; set++) {
            Counted x = Check.school(text);
            for (int effects = all; effects >= 0; effects = effects == 0 ? -1 : effects - 1 & all) {
                measure(set, effects);
                for (int t = 0; t < 4; t++) {
                    hold(x, text, t, effects, set);
                    keepLeast(least, t * 1024 + effects, set, things[t]);
                }
            }
        }
        for (int t = 0; t < 4; t++) {
            Counted x = Check.school(text);
            for (int effects = all; effects > 0; effects = effects - 1 & all) {
                check.due(text + " takes(" + t + ", " + effects + ")", x.takes(t, effects), least[t * 1024 + effects]);
            }
        }
    }

    private void keepLeast(int[] least, int place, int set, int row) {
        boolean isFewer = least[place] < 0 || Integer.bitCount(set) < Integer.bitCount(least[place]);
        if (far[row] < FAR && isFewer) {
            least[place] = set;
        }
    }

    private void hold(Counted x, String text, int t, int effects, int set) {
        int row = things[t];
        int first = far[row] == 0 ? -5 : SpellLayers.NONE;
        for (int word = 6; word >= 0 && far[row] > 0 && far[row] < FAR; word--) {
            int next = after(row, word, set);
            if (next >= 0 && far[next] + cost(row, word) * COST + WORD == far[row]) {
                first = word;
            }
        }
        int cost = far[row] < FAR ? far[row] / COST : SpellLayers.NONE;
        String call = text + " cheapest(" + t + ", " + effects + ", " + set + ", ";
        check.due(call + "0)", x.cheapest(t, effects, set, 0), cost);
        check.due(call + "1)", x.cheapest(t, effects, set, 1), first);
    }

    private String school(Random lot) {
        StringBuilder text = new StringBuilder();
        int few = 2 + lot.nextInt(4);
        int dear = 1 + lot.nextInt(9);
        int free = 1 + lot.nextInt(3);
        for (int s = 0; s < MOST; s++) {
            effect[s] = lot.nextInt(few);
            glass[s] = lot.nextInt(3) > 0 ? 1 : 0;
            lay[s] = lot.nextInt(free) == 0 ? lot.nextInt(dear + 1) : 0;
            lift[s] = lot.nextInt(free) == 0 ? lot.nextInt(dear + 1) : 0;
            text.append("spell ").append(effect[s]).append(' ').append(glass[s]).append(' ').append(lay[s]);
            text.append(' ').append(lift[s]).append(';');
        }
        for (int t = 0; t < 4; t++) {
            text.append("thing");
            for (int d = t == 0 ? 5 : lot.nextInt(6); d > 0; d--) {
                int s = lot.nextInt(MOST);
                things[t] = things[t] * 6 + s + 1;
                text.append(' ').append(s);
            }
            text.append(';');
        }
        for (int p = 0; p < 3; p++) {
            pupils[p] = p == 0 ? 31 - (1 << lot.nextInt(6)) & 31 : lot.nextInt(32);
            text.append("pupil ").append(pupils[p]).append(';');
        }
        swap = lot.nextInt(10);
        return text.append("swap ").append(swap).append(';').toString();
    }

    /** How far each row is from working just so: costs, then words. */
    private void measure(int set, int effects) {
        for (int row = 0; row < ROWS; row++) {
            far[row] = works(row) == effects ? 0 : FAR;
        }
        boolean better = true;
        while (better) {
            better = false;
            for (int row = 0; row < ROWS; row++) {
                if (isRow(row)) {
                    better |= isBetter(row, set);
                }
            }
        }
    }

    private boolean isBetter(int row, int set) {
        int old = far[row];
        for (int word = 0; word <= 6; word++) {
            int next = after(row, word, set);
            if (next >= 0) {
                far[row] = Math.min(far[row], far[next] + cost(row, word) * COST + WORD);
            }
        }
        return far[row] < old;
    }

    /** No layer is empty with one above it. */
    private static boolean isRow(int row) {
        for (int rest = row; rest > 0; rest /= 6) {
            if (rest % 6 == 0) {
                return false;
            }
        }
        return true;
    }

    private int works(int row) {
        if (!isRow(row)) {
            return -1;
        }
        int works = 0;
        for (int rest = row; rest > 0; rest = glass[rest % 6 - 1] == 1 ? rest / 6 : 0) {
            works |= 1 << effect[rest % 6 - 1];
        }
        return works;
    }

    private int after(int row, int word, int set) {
        int top = row % 6;
        int second = row / 6 % 6;
        if (word < 5) {
            return row < 1296 && may(set, 1 << word) ? row * 6 + word + 1 : -1;
        }
        if (word == 5) {
            return row > 0 && may(set, 1 << top - 1) ? row / 6 : -1;
        }
        return row >= 6 && may(set, 1 << top - 1 | 1 << second - 1) ? row / 36 * 36 + top * 6 + second : -1;
    }

    private boolean may(int set, int wanted) {
        for (int p = 0; p < 3; p++) {
            if ((set & 1 << p) != 0 && (pupils[p] & wanted) == wanted) {
                return true;
            }
        }
        return false;
    }

    private int cost(int row, int word) {
        return word == 6 ? swap : word == 5 ? lift[row % 6 - 1] : lay[word];
    }
}
