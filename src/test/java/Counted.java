import java.util.ArrayList;
import java.util.List;
import java.util.function.ToLongFunction;

/**
 * A SpellLayers whose calls are counted, so that no test leans on what the document leaves free behind the 512th, and
 * remembered, so that another one can be brought to the same state.
 */
final class Counted {
    static final int MOST_CALLS = 512;

    private final SpellLayers x = new SpellLayers();
    private final List<ToLongFunction<SpellLayers>> made = new ArrayList<>();

    private long make(ToLongFunction<SpellLayers> call) {
        if (made.size() == MOST_CALLS) {
            throw new IllegalStateException("a test makes more calls than the document allows");
        }
        made.add(call);
        return call.applyAsLong(x);
    }

    int calls() {
        return made.size();
    }

    /** Another object behind the same calls. */
    Counted twin() {
        Counted twin = new Counted();
        for (ToLongFunction<SpellLayers> call : made) {
            twin.make(call);
        }
        return twin;
    }

    int type(long v, int n) {
        return (int) make(y -> y.type(v, n));
    }

    int clear() {
        return (int) make(SpellLayers::clear);
    }

    int school() {
        return (int) make(SpellLayers::school);
    }

    int spell(int s, int what) {
        return (int) make(y -> y.spell(s, what));
    }

    int thing(int t, int what) {
        return (int) make(y -> y.thing(t, what));
    }

    int layer(int t, int d) {
        return (int) make(y -> y.layer(t, d));
    }

    int pupil(int p) {
        return (int) make(y -> y.pupil(p));
    }

    int lay(int p, int t, int s) {
        return (int) make(y -> y.lay(p, t, s));
    }

    int lift(int p, int t) {
        return (int) make(y -> y.lift(p, t));
    }

    int swap(int p, int t) {
        return (int) make(y -> y.swap(p, t));
    }

    int copy(int p, int from, int to) {
        return (int) make(y -> y.copy(p, from, to));
    }

    int undo() {
        return (int) make(SpellLayers::undo);
    }

    int now(int what) {
        return (int) make(y -> y.now(what));
    }

    int cheapest(int t, int effects, int pupils, int what) {
        return (int) make(y -> y.cheapest(t, effects, pupils, what));
    }

    int takes(int t, int effects) {
        return (int) make(y -> y.takes(t, effects));
    }

    int learn(int effects, int what) {
        return (int) make(y -> y.learn(effects, what));
    }

    int saw(int lifted, int effects) {
        return (int) make(y -> y.saw(lifted, effects));
    }

    int forget() {
        return (int) make(SpellLayers::forget);
    }

    int could() {
        return (int) make(SpellLayers::could);
    }

    int under(int d) {
        return (int) make(y -> y.under(d));
    }

    int lifted() {
        return (int) make(SpellLayers::lifted);
    }

    int broom(int t, int a, int b, int n, int x, int what) {
        return (int) make(y -> y.broom(t, a, b, n, x, what));
    }

    long odds(int k, int p, int what) {
        return make(y -> y.odds(k, p, what));
    }

    int rate(int kind, int s) {
        return (int) make(y -> y.rate(kind, s));
    }

    int keep(int image) {
        return (int) make(y -> y.keep(image));
    }

    int back(int image) {
        return (int) make(y -> y.back(image));
    }

    int count(int what) {
        return (int) make(y -> y.count(what));
    }

    long trace() {
        return make(SpellLayers::trace);
    }

    /** All that can be read of it without changing it; the calls are made on a twin. */
    String looks() {
        StringBuilder all = new StringBuilder();
        twin().addWhatIs(all);
        return all.toString();
    }

    /**
     * All that can be told of its state by calls alone, made on a twin: what can be read, what each undo() and each
     * image makes of it, what its text says.
     */
    String all() {
        StringBuilder all = new StringBuilder();
        Counted twin = twin();
        twin.addWhatIs(all);
        for (int undone = 0; undone <= 12; undone++) {
            all.append(twin.undo());
            twin.addThings(all);
        }
        for (int image = 0; image < 2; image++) {
            all.append(twin.back(image));
            twin.addThings(all);
        }
        all.append(twin.school());
        twin.addWhatIs(all);
        return all.toString();
    }

    private void addWhatIs(StringBuilder all) {
        for (int what = 0; what < 8; what++) {
            all.append(count(what)).append(' ');
        }
        for (int s = 0; s < 5; s++) {
            for (int what = 0; what < 4; what++) {
                all.append(spell(s, what)).append(' ');
            }
        }
        for (int p = 0; p < 3; p++) {
            all.append(pupil(p)).append(' ');
        }
        for (int t = 0; t < 4; t++) {
            for (int d = 2; d < 5; d++) {
                all.append(layer(t, d)).append(' ');
            }
        }
        all.append(now(1)).append(' ').append(now(3));
        addThings(all);
        all.append(could()).append(' ').append(lifted()).append(' ').append(trace()).append('\n');
    }

    private void addThings(StringBuilder all) {
        all.append(' ').append(now(0)).append(' ').append(now(2)).append(' ');
        for (int t = 0; t < 4; t++) {
            all.append(layer(t, 0)).append(' ').append(layer(t, 1)).append(' ');
        }
        all.append('\n');
    }
}
