import java.util.ArrayList;
import java.util.List;
import java.util.Random;

/** Runs of calls by lot (the same ones each time), each answer held against the slow model's. */
public final class ModelTest {
    // What is begun then ends ahead of the 512th call.
    private static final int ENOUGH_CALLS = 430;
    private static final int[] WILD = {
        -1, -2, 5, 6, 7, 8, 10, 11, 1023, 1024, 300, 31, 32, 33, 63, 64, -31, -32,
        Integer.MAX_VALUE, Integer.MIN_VALUE, Integer.MAX_VALUE - 1, Integer.MIN_VALUE + 1
    };
    private static final String[] BITS = {
        "spell", "thing", "pupil", "swap", "copy", "hum", ";", ";", " ", "  ", "0", "1", "2", "3", "9", "10", "31",
        "99", "100", "01", "00", "x", "spel", "spells", "S", "-", "\u00ff", "\u0000", "\n", "4294967296", "5", "4"
    };

    private final Random lot;
    private final Check check = new Check("ModelTest");
    private Counted x;
    private Model m;
    private int run;
    private int spells;
    private int things;
    private int pupils;
    private List<Integer> effects = new ArrayList<>();
    private List<Integer> hat = new ArrayList<>();

    private ModelTest(long seed) {
        lot = new Random(seed);
    }

    public static void main(String[] args) {
        long seed = args.length > 0 ? Long.parseLong(args[0]) : 1;
        int runs = args.length > 1 ? Integer.parseInt(args[1]) : 400;
        ModelTest test = new ModelTest(seed);
        for (int i = 0; i < runs; i++) {
            test.oneRun(i);
        }
        test.check.end();
    }

    private void oneRun(int number) {
        run = number;
        x = new Counted();
        m = new Model();
        spells = 0;
        things = 0;
        pupils = 0;
        effects = new ArrayList<>(List.of(0, 1));
        hat = new ArrayList<>();
        // Most schools are small, so that the model's slow searches stay short; some are as great as may be.
        int mostSpells = number % 20 == 0 ? 5 : number % 12 == 1 ? 0 : 1 + number % 4;
        for (int i = 0; i < 5 && things == 0 && number % 12 != 5; i++) {
            tellSchool(mostSpells);
        }
        while (x.calls() < ENOUGH_CALLS) {
            if (lot.nextInt(60) == 0) {
                tellSchool(mostSpells);
            }
            oneCall();
        }
    }

    private void due(String call, long got, long want) {
        check.due("run " + run + ": " + call, got, want);
    }

    // ---- texts

    private void tellSchool(int mostSpells) {
        due("clear()", x.clear(), m.clear());
        if (lot.nextInt(3) == 0) {
            write(wrongText(mostSpells));
        } else {
            write(goodText(mostSpells));
        }
        int items = x.school();
        due("school()", items, m.school());
        spells = x.count(0);
        things = x.count(1);
        pupils = x.count(2);
        newHat();
        effects = new ArrayList<>(List.of(0, 1 << lot.nextInt(10)));
        for (int i = 0; i < 8; i++) {
            int set = 0;
            for (int s = 0; s < spells; s++) {
                set |= lot.nextBoolean() ? 1 << x.spell(s, 0) : 0;
            }
            effects.add(set);
        }
    }

    private void write(String text) {
        for (int from = 0; from < text.length() && x.calls() < ENOUGH_CALLS; ) {
            int n = Math.min(1 + lot.nextInt(8), text.length() - from);
            long v = lot.nextLong();
            for (int i = 0; i < n; i++) {
                v = v << 8 | text.charAt(from + i);
            }
            due("type(" + v + ", " + n + ")", x.type(v, n), m.type(v, n));
            from += n;
        }
    }

    private String goodText(int mostSpells) {
        List<String> items = new ArrayList<>();
        int many = mostSpells == 0 ? 0 : 1 + lot.nextInt(mostSpells);
        if (mostSpells == 5) {
            many = 5;
        }
        int few = 1 + lot.nextInt(10);
        for (int s = 0; s < many; s++) {
            items.add("spell " + lot.nextInt(few) + " " + (lot.nextInt(3) > 0 ? 1 : 0) + " " + cost() + " " + cost());
        }
        int known = many;
        for (int t = lot.nextInt(8) == 0 ? lot.nextInt(5) : 1 + lot.nextInt(4); t > 0; t--) {
            StringBuilder thing = new StringBuilder("thing");
            for (int d = known == 0 ? 0 : lot.nextInt(6); d > 0; d--) {
                thing.append(' ').append(lot.nextInt(known));
            }
            items.add(thing.toString());
        }
        for (int p = lot.nextInt(8) == 0 ? lot.nextInt(4) : 2 + lot.nextInt(2); p > 0; p--) {
            items.add("pupil " + (lot.nextInt(3) == 0 ? (1 << known) - 1 : lot.nextInt(1 << known)));
        }
        if (lot.nextBoolean()) {
            items.add(lot.nextInt(items.size() + 1), "swap " + cost());
        }
        if (lot.nextBoolean()) {
            items.add(lot.nextInt(items.size() + 1), "copy " + cost());
        }
        if (lot.nextBoolean()) {
            items.add(lot.nextInt(items.size() + 1), "hum " + (1 + lot.nextInt(5)));
        }
        StringBuilder text = new StringBuilder();
        for (String item : items) {
            text.append(lot.nextInt(6) == 0 ? item.replaceFirst(" ", "") : item).append(';');
            text.append(" ".repeat(lot.nextInt(8) == 0 ? 3 : 0));
        }
        return text.toString();
    }

    private int cost() {
        return lot.nextInt(3) == 0 ? 0 : lot.nextInt(10);
    }

    private String wrongText(int mostSpells) {
        StringBuilder text = new StringBuilder(goodText(mostSpells));
        for (int i = lot.nextInt(3); i >= 0; i--) {
            int at = lot.nextInt(text.length() + 1);
            if (lot.nextBoolean()) {
                text.insert(at, BITS[lot.nextInt(BITS.length)]);
            } else {
                text.delete(at, Math.min(text.length(), at + 1 + lot.nextInt(3)));
            }
        }
        if (lot.nextInt(5) == 0) {
            text.setLength(lot.nextInt(text.length() + 1));
        }
        if (lot.nextInt(10) == 0) {
            text.append(goodText(mostSpells)).append(goodText(mostSpells));
        }
        return text.toString();
    }

    // ---- calls

    private int wild() {
        return lot.nextInt(4) == 0 ? lot.nextInt() : WILD[lot.nextInt(WILD.length)];
    }

    /** A number below most (0 or more), now and then another one. */
    private int some(int most) {
        if (lot.nextInt(30) == 0) {
            return wild();
        }
        return lot.nextInt(40) == 0 || most <= 0 ? most : lot.nextInt(most);
    }

    private int effectSet() {
        if (lot.nextInt(12) == 0) {
            return lot.nextBoolean() ? lot.nextInt(1024) : wild();
        }
        return effects.get(lot.nextInt(effects.size()));
    }

    private void oneCall() {
        int kind = lot.nextInt(34);
        switch (kind) {
            case 0, 1, 2, 3, 4, 5, 6, 7, 8 -> word();
            case 9, 10, 11, 12, 13 -> look();
            case 14, 15, 16, 17, 18, 19, 20 -> cheap();
            case 21, 22, 23, 24, 25, 26 -> hat();
            case 27, 28 -> broom();
            case 29, 30 -> rateAndImages();
            case 31 -> odds();
            default -> text();
        }
    }

    private void word() {
        int p = some(pupils);
        int t = some(things);
        switch (lot.nextInt(8)) {
            case 0, 1, 2 -> {
                int s = some(spells);
                due("lay(" + p + ", " + t + ", " + s + ")", x.lay(p, t, s), m.lay(p, t, s));
            }
            case 3 -> due("lift(" + p + ", " + t + ")", x.lift(p, t), m.lift(p, t));
            case 4 -> due("swap(" + p + ", " + t + ")", x.swap(p, t), m.swap(p, t));
            case 5, 6 -> {
                int to = some(things);
                due("copy(" + p + ", " + t + ", " + to + ")", x.copy(p, t, to), m.copy(p, t, to));
            }
            default -> {
                for (int i = lot.nextInt(20) == 0 ? 14 : 1; i > 0; i--) {
                    due("undo()", x.undo(), m.undo());
                }
            }
        }
        for (int what = 0; what < 4; what++) {
            due("now(" + what + ")", x.now(what), m.now(what));
        }
    }

    private void look() {
        for (int t = 0; t < things; t++) {
            for (int d = 0; d < 6; d++) {
                due("layer(" + t + ", " + d + ")", x.layer(t, d), m.layer(t, d));
            }
        }
        int t = some(things);
        int s = some(spells);
        int p = some(pupils);
        int d = some(6);
        int what = some(4);
        int which = some(8);
        due("spell(" + s + ", " + what + ")", x.spell(s, what), m.spell(s, what));
        due("thing(" + t + ", " + what + ")", x.thing(t, what), m.thing(t, what));
        due("layer(" + t + ", " + d + ")", x.layer(t, d), m.layer(t, d));
        due("pupil(" + p + ")", x.pupil(p), m.pupil(p));
        due("now(" + what + ")", x.now(what), m.now(what));
        due("count(" + which + ")", x.count(which), m.count(which));
        due("trace()", x.trace(), m.trace());
    }

    private void cheap() {
        // The model goes through all rows of five spells slowly: seldom.
        if (spells >= 4 && lot.nextInt(spells == 5 ? 12 : 3) != 0) {
            return;
        }
        int t = some(things);
        int e = effectSet();
        int set = some(1 << pupils);
        int what = some(2);
        String args = "(" + t + ", " + e + ", " + set + ", " + what + ")";
        switch (lot.nextInt(4)) {
            case 0, 1 -> due("cheapest" + args, x.cheapest(t, e, set, what), m.cheapest(t, e, set, what));
            case 2 -> due("takes(" + t + ", " + e + ")", x.takes(t, e), m.takes(t, e));
            default -> due("learn(" + e + ", " + what + ")", x.learn(e, what), m.learn(e, what));
        }
    }

    private void hat() {
        for (int i = lot.nextInt(40) == 0 ? 8 : lot.nextInt(2); i > 0; i--) {
            int l = some(4);
            // Mostly what a real hat would do, so that something is left that it can be.
            boolean real = l >= 0 && l <= hat.size() && lot.nextInt(6) > 0;
            int e = real ? m.works(hat.subList(0, hat.size() - l)) : effectSet();
            due("saw(" + l + ", " + e + ")", x.saw(l, e), m.saw(l, e));
        }
        due("could()", x.could(), m.could());
        due("lifted()", x.lifted(), m.lifted());
        int d = some(3);
        due("under(" + d + ")", x.under(d), m.under(d));
        if (lot.nextInt(6) == 0 || x.could() == 0) {
            due("forget()", x.forget(), m.forget());
            newHat();
        }
    }

    private void newHat() {
        hat = new ArrayList<>();
        for (int d = spells == 0 ? 0 : lot.nextInt(4); d > 0; d--) {
            hat.add(lot.nextInt(spells));
        }
    }

    private void broom() {
        int t = some(things);
        int a = some(pupils);
        int b = some(pupils);
        int n = some(spells > 3 ? 4 : 5);
        int e = spells > 0 && lot.nextInt(4) > 0 ? x.spell(lot.nextInt(spells), 0) : some(10);
        int what = some(2);
        String args = "(" + t + ", " + a + ", " + b + ", " + n + ", " + e + ", " + what + ")";
        due("broom" + args, x.broom(t, a, b, n, e, what), m.broom(t, a, b, n, e, what));
    }

    private void rateAndImages() {
        int kind = some(6);
        int s = some(spells);
        due("rate(" + kind + ", " + s + ")", x.rate(kind, s), m.rate(kind, s));
        due("trace()", x.trace(), m.trace());
        int image = some(2);
        switch (lot.nextInt(4)) {
            case 0, 1 -> due("keep(" + image + ")", x.keep(image), m.keep(image));
            case 2 -> due("back(" + image + ")", x.back(image), m.back(image));
            default -> { }
        }
    }

    private void odds() {
        int k = some(10);
        int p = some(11);
        int what = some(2);
        due("odds(" + k + ", " + p + ", " + what + ")", x.odds(k, p, what), m.odds(k, p, what));
    }

    private void text() {
        if (lot.nextInt(3) == 0) {
            due("clear()", x.clear(), m.clear());
        } else {
            long v = lot.nextLong();
            int n = lot.nextInt(8) == 0 ? wild() : 1 + lot.nextInt(8);
            for (int i = lot.nextInt(30) == 0 ? 40 : 1; i > 0; i--) {
                due("type(" + v + ", " + n + ")", x.type(v, n), m.type(v, n));
            }
        }
        if (lot.nextInt(16) == 0) {
            due("school()", x.school(), m.school());
            spells = x.count(0);
            things = x.count(1);
            pupils = x.count(2);
            newHat();
        }
        due("count(4)", x.count(4), m.count(4));
    }
}
