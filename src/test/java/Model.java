import java.util.ArrayDeque;
import java.util.ArrayList;
import java.util.Arrays;
import java.util.Collections;
import java.util.HashMap;
import java.util.HashSet;
import java.util.List;
import java.util.Map;
import java.util.Set;
import java.util.TreeMap;
import java.util.TreeSet;
import java.util.regex.Matcher;
import java.util.regex.Pattern;

/**
 * The document once more, as slowly and plainly as it can be said, to hold the program against: rows of spells
 * are lists (the lowest first), effects are sets, every question is answered by going through all there is.
 */
final class Model {
    private static final int BAD = -1, STATE = -2, FULL = -3, NONE = -9;
    private static final Pattern TOKEN = Pattern.compile("[a-z]+|[0-9]+|;");

    record Spell(int effect, boolean glass, int lay, int lift) { }

    record Memory(List<List<Integer>> things, int spent) { }

    record Sight(int lifted, int effects) { }

    private StringBuilder text = new StringBuilder();
    private List<Spell> spells = new ArrayList<>();
    private List<List<Integer>> things = new ArrayList<>();
    private List<Integer> pupils = new ArrayList<>();
    private int swapCost = 1;
    private int copyCost = 1;
    private int hum = 4;
    private int spent;
    private List<Memory> past = new ArrayList<>();
    private Memory[] images = new Memory[2];
    private final List<Sight> seen = new ArrayList<>();
    private long trace;

    // ---- the school

    int type(long v, int n) {
        if (n < 1 || n > 8) {
            return BAD;
        }
        if (text.length() + n > 300) {
            return FULL;
        }
        String bytes = "";
        for (int i = 0; i < n; i++) {
            bytes = (char) (v & 255) + bytes;
            v = v >> 8;
        }
        text.append(bytes);
        return text.length();
    }

    int clear() {
        int length = text.length();
        text = new StringBuilder();
        return length;
    }

    int school() {
        List<String> tokens = new ArrayList<>();
        List<Integer> places = new ArrayList<>();
        Matcher matcher = TOKEN.matcher(text);
        int at = 0;
        while (true) {
            while (at < text.length() && text.charAt(at) == ' ') {
                at++;
            }
            if (at == text.length()) {
                break;
            }
            matcher.region(at, text.length());
            places.add(at);
            if (!matcher.lookingAt()) {
                tokens.add("?");
                break;
            }
            tokens.add(matcher.group());
            at = matcher.end();
        }
        tokens.add("");
        places.add(text.length());
        return read(tokens, places);
    }

    private int read(List<String> tokens, List<Integer> places) {
        Model fresh = new Model();
        Set<String> once = new HashSet<>();
        int items = 0;
        int i = 0;
        while (!tokens.get(i).isEmpty()) {
            String word = tokens.get(i);
            boolean can = switch (word) {
                case "spell" -> fresh.spells.size() < 5;
                case "thing" -> fresh.things.size() < 4;
                case "pupil" -> fresh.pupils.size() < 3;
                case "swap", "copy", "hum" -> once.add(word);
                default -> false;
            };
            if (!can) {
                return -10 - places.get(i);
            }
            i++;
            List<int[]> limits = limitsOf(word, fresh);
            List<Integer> got = new ArrayList<>();
            while (got.size() < limits.size()) {
                String token = tokens.get(i);
                if (word.equals("thing") && token.equals(";")) {
                    break;
                }
                if (!isNumber(token, limits.get(got.size()))) {
                    return -10 - places.get(i);
                }
                got.add(Integer.parseInt(token));
                i++;
            }
            if (!tokens.get(i).equals(";")) {
                return -10 - places.get(i);
            }
            i++;
            fresh.tell(word, got);
            items++;
        }
        spells = fresh.spells;
        things = fresh.things;
        pupils = fresh.pupils;
        swapCost = fresh.swapCost;
        copyCost = fresh.copyCost;
        hum = fresh.hum;
        spent = 0;
        past = new ArrayList<>();
        images = new Memory[2];
        seen.clear();
        text = new StringBuilder();
        return items;
    }

    private static List<int[]> limitsOf(String word, Model fresh) {
        int told = fresh.spells.size();
        int[] number = {0, 9};
        return switch (word) {
            case "spell" -> List.of(number, new int[] {0, 1}, number, number);
            case "thing" -> Collections.nCopies(5, new int[] {0, told - 1});
            case "pupil" -> List.of(new int[] {0, (1 << told) - 1});
            case "hum" -> List.of(new int[] {1, 5});
            default -> List.of(number);
        };
    }

    private static boolean isNumber(String token, int[] limits) {
        if (!token.matches("0|[1-9][0-9]?")) {
            return false;
        }
        int value = Integer.parseInt(token);
        return value >= limits[0] && value <= limits[1];
    }

    private void tell(String word, List<Integer> got) {
        switch (word) {
            case "spell" -> spells.add(new Spell(got.get(0), got.get(1) == 1, got.get(2), got.get(3)));
            case "thing" -> things.add(got);
            case "pupil" -> pupils.add(got.get(0));
            case "swap" -> swapCost = got.get(0);
            case "copy" -> copyCost = got.get(0);
            default -> hum = got.get(0);
        }
    }

    private boolean isSpell(int s) {
        return s >= 0 && s < spells.size();
    }

    private boolean isThing(int t) {
        return t >= 0 && t < things.size();
    }

    private boolean isPupil(int p) {
        return p >= 0 && p < pupils.size();
    }

    int spell(int s, int what) {
        if (!isSpell(s) || what < 0 || what > 3) {
            return BAD;
        }
        Spell it = spells.get(s);
        return List.of(it.effect, it.glass ? 1 : 0, it.lay, it.lift).get(what);
    }

    int thing(int t, int what) {
        if (!isThing(t) || what < 0 || what > 2) {
            return BAD;
        }
        List<Integer> row = things.get(t);
        return List.of(row.size(), works(row), row.size() >= hum ? 1 : 0).get(what);
    }

    int layer(int t, int d) {
        if (!isThing(t) || d < 0) {
            return BAD;
        }
        List<Integer> row = things.get(t);
        return d >= row.size() ? -5 : row.get(row.size() - 1 - d);
    }

    int pupil(int p) {
        return isPupil(p) ? pupils.get(p) : BAD;
    }

    int works(List<Integer> row) {
        Set<Integer> effects = new TreeSet<>();
        List<Integer> down = new ArrayList<>(row);
        Collections.reverse(down);
        for (int s : down) {
            effects.add(spells.get(s).effect);
            if (!spells.get(s).glass) {
                break;
            }
        }
        return effects.stream().mapToInt(e -> 1 << e).sum();
    }

    // ---- words

    private boolean may(int p, int... which) {
        return Arrays.stream(which).allMatch(s -> (pupils.get(p) & 1 << s) != 0);
    }

    private boolean mayAny(int set, int... which) {
        for (int p = 0; p < pupils.size(); p++) {
            if ((set & 1 << p) != 0 && may(p, which)) {
                return true;
            }
        }
        return false;
    }

    /** The rows that words of these pupils make of a row, by the number of the word. */
    private Map<Integer, List<Integer>> steps(List<Integer> row, int set) {
        Map<Integer, List<Integer>> steps = new TreeMap<>();
        int n = row.size();
        for (int s = 0; s < spells.size(); s++) {
            if (n < 5 && mayAny(set, s)) {
                List<Integer> next = new ArrayList<>(row);
                next.add(s);
                steps.put(s, next);
            }
        }
        if (n >= 1 && mayAny(set, row.get(n - 1))) {
            steps.put(5, new ArrayList<>(row.subList(0, n - 1)));
        }
        if (n >= 2 && mayAny(set, row.get(n - 1), row.get(n - 2))) {
            List<Integer> next = new ArrayList<>(row);
            Collections.swap(next, n - 1, n - 2);
            steps.put(6, next);
        }
        return steps;
    }

    private int cost(List<Integer> row, int word) {
        if (word == 6) {
            return swapCost;
        }
        return word == 5 ? spells.get(row.get(row.size() - 1)).lift : spells.get(word).lay;
    }

    private Memory nowAsImage() {
        List<List<Integer>> all = new ArrayList<>();
        for (List<Integer> row : things) {
            all.add(new ArrayList<>(row));
        }
        return new Memory(all, spent);
    }

    private void become(Memory memory) {
        things = new ArrayList<>();
        for (List<Integer> row : memory.things) {
            things.add(new ArrayList<>(row));
        }
        spent = memory.spent;
    }

    private void say(int t, List<Integer> row, int cost) {
        past.add(nowAsImage());
        if (past.size() > 12) {
            past.remove(0);
        }
        things.set(t, row);
        spent += cost;
    }

    int lay(int p, int t, int s) {
        if (!isPupil(p) || !isThing(t) || !isSpell(s)) {
            return BAD;
        }
        if (!may(p, s)) {
            return STATE;
        }
        List<Integer> row = new ArrayList<>(things.get(t));
        if (row.size() == 5) {
            return FULL;
        }
        row.add(s);
        say(t, row, spells.get(s).lay);
        return spells.get(s).lay;
    }

    int lift(int p, int t) {
        if (!isPupil(p) || !isThing(t)) {
            return BAD;
        }
        List<Integer> row = new ArrayList<>(things.get(t));
        if (row.isEmpty() || !may(p, row.get(row.size() - 1))) {
            return STATE;
        }
        int s = row.remove(row.size() - 1);
        say(t, row, spells.get(s).lift);
        return s;
    }

    int swap(int p, int t) {
        if (!isPupil(p) || !isThing(t)) {
            return BAD;
        }
        List<Integer> row = new ArrayList<>(things.get(t));
        int n = row.size();
        if (n < 2 || !may(p, row.get(n - 1), row.get(n - 2))) {
            return STATE;
        }
        Collections.swap(row, n - 1, n - 2);
        say(t, row, swapCost);
        return row.get(n - 1);
    }

    int copy(int p, int from, int to) {
        if (!isPupil(p) || !isThing(from) || !isThing(to) || from == to) {
            return BAD;
        }
        List<Integer> source = things.get(from);
        if (source.isEmpty() || !may(p, source.get(source.size() - 1))) {
            return STATE;
        }
        List<Integer> row = new ArrayList<>(things.get(to));
        if (row.size() == 5) {
            return FULL;
        }
        int s = source.get(source.size() - 1);
        row.add(s);
        say(to, row, copyCost);
        return s;
    }

    int undo() {
        if (past.isEmpty()) {
            return STATE;
        }
        become(past.remove(past.size() - 1));
        return past.size();
    }

    int now(int what) {
        int humming = 0;
        int layers = 0;
        for (int t = 0; t < things.size(); t++) {
            humming += things.get(t).size() >= hum ? 1 << t : 0;
            layers += things.get(t).size();
        }
        return what < 0 || what > 3 ? BAD : List.of(spent, humming, layers, past.size()).get(what);
    }

    // ---- the cheapest

    private static boolean isSet(int effects) {
        return effects >= 0 && effects <= 1023;
    }

    int cheapest(int t, int effects, int pupilSet, int what) {
        if (!isThing(t) || !isSet(effects) || pupilSet < 0 || pupilSet >= 1 << pupils.size() || what < 0 || what > 1) {
            return BAD;
        }
        List<Integer> start = things.get(t);
        Map<List<Integer>, Map<Integer, List<Integer>>> roads = roadsFrom(start, pupilSet);
        // How far each row is from the end: cost, then words, made better until nothing gets better.
        Map<List<Integer>, Long> far = new HashMap<>();
        for (List<Integer> row : roads.keySet()) {
            if (works(row) == effects) {
                far.put(row, 0L);
            }
        }
        boolean better = true;
        while (better) {
            better = false;
            for (List<Integer> row : roads.keySet()) {
                for (Map.Entry<Integer, List<Integer>> road : roads.get(row).entrySet()) {
                    Long rest = far.get(road.getValue());
                    if (rest == null) {
                        continue;
                    }
                    long all = rest + cost(row, road.getKey()) * 1000000L + 1;
                    if (!far.containsKey(row) || all < far.get(row)) {
                        far.put(row, all);
                        better = true;
                    }
                }
            }
        }
        if (!far.containsKey(start)) {
            return NONE;
        }
        long least = far.get(start);
        if (what == 0) {
            return (int) (least / 1000000);
        }
        if (least == 0) {
            return -5;
        }
        for (Map.Entry<Integer, List<Integer>> road : roads.get(start).entrySet()) {
            Long rest = far.get(road.getValue());
            if (rest != null && rest + cost(start, road.getKey()) * 1000000L + 1 == least) {
                return road.getKey();
            }
        }
        throw new IllegalStateException("no first word");
    }

    private Map<List<Integer>, Map<Integer, List<Integer>>> roadsFrom(List<Integer> start, int set) {
        Map<List<Integer>, Map<Integer, List<Integer>>> roads = new HashMap<>();
        ArrayDeque<List<Integer>> waiting = new ArrayDeque<>();
        waiting.add(start);
        while (!waiting.isEmpty()) {
            List<Integer> row = waiting.poll();
            if (!roads.containsKey(row)) {
                Map<Integer, List<Integer>> steps = steps(row, set);
                roads.put(row, steps);
                waiting.addAll(steps.values());
            }
        }
        return roads;
    }

    int takes(int t, int effects) {
        if (!isThing(t) || !isSet(effects)) {
            return BAD;
        }
        int best = NONE;
        for (int set = (1 << pupils.size()) - 1; set >= 0; set--) {
            boolean can = roadsFrom(things.get(t), set).keySet().stream().anyMatch(row -> works(row) == effects);
            if (can && (best == NONE || Integer.bitCount(set) <= Integer.bitCount(best))) {
                best = set;
            }
        }
        return best;
    }

    int learn(int effects, int what) {
        if (!isSet(effects) || what < 0 || what > 1) {
            return BAD;
        }
        int best = -1;
        for (List<Integer> row : rows(5)) {
            if (works(row) == effects) {
                int set = row.stream().mapToInt(s -> 1 << s).reduce(0, (x, y) -> x | y);
                int sizes = Integer.bitCount(set) - Integer.bitCount(best);
                if (best < 0 || sizes < 0 || sizes == 0 && set < best) {
                    best = set;
                }
            }
        }
        if (best < 0) {
            return NONE;
        }
        return what == 0 ? Integer.bitCount(best) : best;
    }

    private List<List<Integer>> rows(int most) {
        List<List<Integer>> all = new ArrayList<>();
        all.add(List.of());
        for (int i = 0; i < all.size(); i++) {
            if (all.get(i).size() < most) {
                for (int s = 0; s < spells.size(); s++) {
                    List<Integer> row = new ArrayList<>(all.get(i));
                    row.add(s);
                    all.add(row);
                }
            }
        }
        return all;
    }

    // ---- the hat

    int saw(int lifted, int effects) {
        if (lifted < 0 || lifted > 3 || !isSet(effects)) {
            return BAD;
        }
        if (seen.size() == 6) {
            return FULL;
        }
        seen.add(new Sight(lifted, effects));
        return seen.size();
    }

    int forget() {
        int size = seen.size();
        seen.clear();
        return size;
    }

    private List<List<Integer>> hats() {
        List<List<Integer>> hats = rows(3);
        for (Sight sight : seen) {
            hats.removeIf(row -> row.size() < sight.lifted
                || works(row.subList(0, row.size() - sight.lifted)) != sight.effects);
        }
        return hats;
    }

    int could() {
        return hats().size();
    }

    int under(int d) {
        if (d < 0 || d > 2) {
            return BAD;
        }
        Set<Integer> there = new HashSet<>();
        for (List<Integer> row : hats()) {
            there.add(d < row.size() ? row.get(row.size() - 1 - d) : -5);
        }
        if (there.isEmpty()) {
            return NONE;
        }
        return there.size() > 1 ? -5 : there.iterator().next();
    }

    int lifted() {
        List<List<Integer>> hats = hats();
        if (hats.isEmpty()) {
            return NONE;
        }
        int best = -1;
        int fewest = 1000;
        for (int l = 0; l <= 3; l++) {
            Map<Integer, Integer> left = new HashMap<>();
            for (List<Integer> row : hats) {
                int answer = row.size() < l ? -1 : works(row.subList(0, row.size() - l));
                left.merge(answer, 1, Integer::sum);
            }
            int worst = Collections.max(left.values());
            if (worst < fewest) {
                fewest = worst;
                best = l;
            }
        }
        return best;
    }

    // ---- a broom, chance

    int broom(int t, int a, int b, int n, int x, int what) {
        if (!isThing(t) || !isPupil(a) || !isPupil(b) || a == b || n < 0 || n > 4 || x < 0 || x > 9
            || what < 0 || what > 1) {
            return BAD;
        }
        List<Integer> row = things.get(t);
        if (what == 0) {
            return aGets(row, a, b, n, x) ? 1 : 0;
        }
        if (n > 0) {
            for (Map.Entry<Integer, List<Integer>> step : turns(row, a).entrySet()) {
                if (!bHinders(step.getValue(), a, b, n - 1, x)) {
                    return step.getKey();
                }
            }
        }
        return NONE;
    }

    private Map<Integer, List<Integer>> turns(List<Integer> row, int p) {
        Map<Integer, List<Integer>> turns = steps(row, 1 << p);
        turns.put(7, row);
        return turns;
    }

    private boolean aGets(List<Integer> row, int a, int b, int left, int x) {
        if (left == 0) {
            return (works(row) & 1 << x) != 0;
        }
        return turns(row, a).values().stream().anyMatch(next -> !bHinders(next, a, b, left - 1, x));
    }

    private boolean bHinders(List<Integer> row, int a, int b, int left, int x) {
        if (left == 0) {
            return (works(row) & 1 << x) == 0;
        }
        return turns(row, b).values().stream().anyMatch(next -> !aGets(next, a, b, left - 1, x));
    }

    long odds(int k, int p, int what) {
        if (k < 0 || k > 9 || p < 0 || p > 10 || what < 0 || what > 1) {
            return BAD;
        }
        java.math.BigInteger upper = java.math.BigInteger.valueOf(10 - p).pow(k);
        java.math.BigInteger lower = java.math.BigInteger.TEN.pow(k);
        java.math.BigInteger common = upper.gcd(lower);
        return (what == 0 ? upper : lower).divide(common).longValueExact();
    }

    // ---- kinds, images

    int rate(int kind, int s) {
        if (kind < 0 || kind > 5 || !isSpell(s)) {
            return -1000000;
        }
        Spell it = spells.get(s);
        int sayers = (int) pupils.stream().filter(set -> (set & 1 << s) != 0).count();
        int layers = (int) things.stream().flatMap(List::stream).filter(r -> r == s).count();
        trace += List.of(1, 11, 101, 1011, 10101, 100001).get(kind);
        return List.of(it.effect, it.effect + it.lay, it.effect - it.lift, 2 * (it.effect + it.lay),
            it.effect - it.lift + sayers, it.effect + layers).get(kind);
    }

    int keep(int image) {
        if (image != 0 && image != 1) {
            return BAD;
        }
        images[image] = nowAsImage();
        return spent;
    }

    int back(int image) {
        if (image != 0 && image != 1) {
            return BAD;
        }
        if (images[image] == null) {
            return STATE;
        }
        become(images[image]);
        past.clear();
        return spent;
    }

    int count(int what) {
        return what < 0 || what > 7 ? BAD : List.of(spells.size(), things.size(), pupils.size(), seen.size(),
            text.length(), swapCost, copyCost, hum).toArray(new Integer[0])[what];
    }

    long trace() {
        return trace;
    }
}
