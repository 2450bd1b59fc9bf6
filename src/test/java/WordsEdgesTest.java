/** The edges that the document names in promises 9 to 14: words, what is taken back, what is now. */
public final class WordsEdgesTest {
    // Things of no layer, one, two, five; pupils who may say all, the one, the other; costs 0 and 9.
    private static final String WORDS = "spell 0 0 0 0;spell 1 1 9 9;spell 2 0 3 4;thing;thing 0;thing 0 1;"
        + "thing 0 1 2 0 1;pupil 7;pupil 1;pupil 2;swap 9;copy 0;hum 5;";
    private static final String ONE = "spell 0 0 3 2;thing;thing 0;thing 0 0;pupil 1;pupil 0;";
    private static final Edges edges = new Edges("WordsEdgesTest");

    public static void main(String[] args) {
        lay();
        lift();
        swap();
        copy();
        undo();
        undoneWords();
        now();
        edges.end(9, 14);
    }

    private static void lay() {
        edges.promise(9);
        edges.bounds("a PUPIL", WORDS, "lay(0, 0, 0)", 0, 0, 2, Edges.BAD);
        edges.bounds("a THING", WORDS, "lay(0, 0, 0)", 1, 0, 3, Edges.BAD);
        edges.bounds("a SPELL", WORDS, "lay(0, 0, 0)", 2, 0, 2, Edges.BAD);
        edges.bounds("a SPELL of five", Edges.GREAT, "lay(0, 1, 0)", 2, 0, 4, Edges.BAD);
        edges.edge("what it costs: 0", WORDS, "lay(0, 0, 0) = 0", "now(0) = 0", "now(3) = 1", "layer(0, 0) = 0");
        edges.edge("what it costs: 9", WORDS, "lay(0, 0, 1) = 9", "now(0) = 9", "lay(0, 0, 1) = 9", "now(0) = 18",
            "thing(0, 1) = 2");
        edges.edge("uppermost", WORDS, "lay(0, 2, 2) = 3", "layer(2, 0) = 2", "layer(2, 1) = 1", "layer(2, 2) = 0",
            "thing(2, 1) = 4");
        edges.edge("FULL: 5 LAYERS", WORDS, "lay(0, 3, 0) ! -3", "lay(2, 3, 1) ! -3", "lay(0, 2, 2) = 3",
            "lay(0, 2, 0) = 0", "thing(2, 0) = 4", "lay(0, 2, 2) = 3", "thing(2, 0) = 5", "lay(0, 2, 2) ! -3",
            "lay(0, 2, 0) ! -3", "now(0) = 6");
        for (int s = 0; s < 5; s++) {
            String thing = "thing" + (" " + s).repeat(4) + ";pupil 31;";
            edges.edge("FULL: 5 LAYERS, all SPELL " + s, "spell 0 0 0 0;".repeat(5) + thing, "lay(0, 0, 0) = 0",
                "lay(0, 0, 0) ! -3", "lift(0, 0) = 0", "lay(0, 0, 4) = 0", "lay(0, 0, 4) ! -3", "layer(0, 4) = " + s);
        }
        edges.edge("FULL: no more behind a LIFT", WORDS, "lift(0, 3) = 1", "lay(0, 3, 2) = 3", "lay(0, 3, 2) ! -3");
        edges.edge("STATE: he may not say it", WORDS, "lay(1, 0, 1) ! -2", "lay(1, 0, 2) ! -2", "lay(2, 0, 0) ! -2",
            "lay(2, 0, 2) ! -2", "lay(1, 0, 0) = 0", "lay(2, 0, 1) = 9");
        edges.edge("STATE: he may say nothing", ONE, "lay(1, 0, 0) ! -2", "lay(0, 0, 0) = 3");
        edges.edge("BAD ahead of STATE", WORDS, "lay(1, 0, 3) ! -1", "lay(1, 4, 1) ! -1", "lay(3, 0, 1) ! -1",
            "lay(1, -1, 1) ! -1", "lay(-1, 0, 1) ! -1", "lay(1, 0, -1) ! -1");
        edges.edge("STATE ahead of FULL", WORDS, "lay(1, 3, 1) ! -2", "lay(1, 3, 2) ! -2", "lay(2, 3, 0) ! -2");
        edges.edge("BAD ahead of FULL", WORDS, "lay(0, 3, 3) ! -1", "lay(3, 3, 0) ! -1", "lay(0, 3, -1) ! -1");
        edges.edge("he need not say what lies below", WORDS, "lay(1, 2, 0) = 0", "lay(2, 1, 1) = 9");
    }

    private static void lift() {
        edges.promise(10);
        edges.bounds("a PUPIL", WORDS, "lift(0, 1)", 0, 0, 2, Edges.BAD);
        edges.bounds("a THING", WORDS, "lift(0, 0)", 1, 0, 3, Edges.BAD);
        edges.edge("LIFT: the SPELL, down to the last", WORDS, "lift(0, 3) = 1", "now(0) = 9", "lift(0, 3) = 0",
            "now(0) = 9", "lift(0, 3) = 2", "now(0) = 13", "lift(0, 3) = 1", "lift(0, 3) = 0", "thing(3, 0) = 0",
            "thing(3, 1) = 0", "now(0) = 22", "now(3) = 5", "lift(0, 3) ! -2");
        edges.edge("LIFT: the highest SPELL", Edges.GREAT, "lift(0, 0) = 0", "lift(0, 0) = 1", "lift(0, 0) = 2",
            "lift(0, 0) = 3", "lift(0, 0) = 4", "now(0) = 45", "lift(0, 0) ! -2");
        edges.edge("STATE: there is none", WORDS, "lift(0, 0) ! -2", "lift(1, 0) ! -2", "lay(0, 0, 0) = 0",
            "lift(0, 0) = 0", "lift(0, 0) ! -2");
        edges.edge("STATE: he may not say it", WORDS, "lift(1, 2) ! -2", "lift(2, 1) ! -2", "lift(2, 2) = 1",
            "lift(2, 2) ! -2", "lift(1, 2) = 0", "lift(1, 2) ! -2");
        edges.edge("STATE: he may say nothing", ONE, "lift(1, 2) ! -2", "lift(1, 0) ! -2", "lift(0, 2) = 0",
            "now(0) = 2");
        edges.edge("BAD ahead of STATE", WORDS, "lift(3, 0) ! -1", "lift(-1, 0) ! -1", "lift(1, 4) ! -1",
            "lift(1, -1) ! -1");
    }

    private static void swap() {
        edges.promise(11);
        edges.bounds("a PUPIL", WORDS, "swap(0, 2)", 0, 0, 2, Edges.BAD);
        edges.bounds("a THING", WORDS, "swap(0, 2)", 1, 0, 3, Edges.BAD);
        edges.edge("the SPELL that is uppermost then", WORDS, "swap(0, 2) = 0", "layer(2, 0) = 0", "layer(2, 1) = 1",
            "now(0) = 9", "swap(0, 2) = 1", "layer(2, 0) = 1", "layer(2, 1) = 0", "now(0) = 18", "now(3) = 2");
        edges.edge("its two uppermost, of five", WORDS, "swap(0, 3) = 0", "layer(3, 0) = 0", "layer(3, 1) = 1",
            "layer(3, 2) = 2", "layer(3, 3) = 1", "layer(3, 4) = 0", "thing(3, 0) = 5");
        edges.edge("STATE: there are not two", WORDS, "swap(0, 0) ! -2", "swap(0, 1) ! -2", "swap(1, 1) ! -2",
            "lay(0, 1, 2) = 3", "swap(0, 1) = 0", "lift(0, 1) = 0", "swap(0, 1) ! -2");
        edges.edge("STATE: he may not say both", WORDS, "swap(1, 2) ! -2", "swap(2, 2) ! -2", "swap(1, 3) ! -2",
            "swap(2, 3) ! -2", "lay(0, 2, 2) = 3", "swap(1, 2) ! -2", "swap(2, 2) ! -2", "swap(0, 2) = 1");
        edges.edge("both, and no more than these", "spell 0 0 0 0;spell 1 0 0 0;spell 2 0 0 0;thing 2 0 1;pupil 3;"
            + "pupil 6;pupil 5;", "swap(1, 0) ! -2", "swap(2, 0) ! -2", "swap(0, 0) = 0", "layer(0, 2) = 2",
            "now(0) = 1");
        edges.edge("two alike", ONE, "swap(1, 2) ! -2", "swap(0, 2) = 0", "now(0) = 1", "now(3) = 1", "undo() = 0",
            "now(0) = 0");
        edges.edge("SWAP 0", "swap 0;" + ONE, "swap(0, 2) = 0", "now(0) = 0", "now(3) = 1");
        edges.edge("BAD ahead of STATE", WORDS, "swap(3, 0) ! -1", "swap(0, 4) ! -1", "swap(1, -1) ! -1",
            "swap(-1, 2) ! -1");
    }

    private static void copy() {
        edges.promise(12);
        edges.bounds("a PUPIL", WORDS, "copy(0, 1, 0)", 0, 0, 2, Edges.BAD);
        // What would be one and the same is beyond, too.
        edges.bounds("from one THING", WORDS, "copy(0, 0, 3)", 1, 0, 2, Edges.BAD);
        edges.bounds("on another one", WORDS, "copy(0, 3, 0)", 2, 0, 2, Edges.BAD);
        edges.bounds("from the last", WORDS, "copy(0, 1, 0)", 1, 1, 3, Edges.BAD);
        edges.bounds("on the last", WORDS, "copy(0, 0, 1)", 2, 1, 3, Edges.BAD);
        edges.edge("BAD (one and the same, too)", WORDS, "copy(0, 0, 0) ! -1", "copy(0, 1, 1) ! -1",
            "copy(0, 2, 2) ! -1", "copy(0, 3, 3) ! -1");
        edges.edge("COPY: the SPELL", WORDS, "copy(0, 1, 0) = 0", "layer(0, 0) = 0", "thing(0, 0) = 1",
            "thing(1, 0) = 1", "now(0) = 0", "now(3) = 1", "copy(0, 3, 1) = 1", "layer(1, 0) = 1", "layer(1, 1) = 0",
            "thing(3, 0) = 5");
        edges.edge("COPY costs 9, not LAY", Edges.GREAT, "copy(0, 2, 1) = 0", "now(0) = 9");
        edges.edge("COPY costs 1 at first", ONE, "copy(0, 1, 0) = 0", "now(0) = 1");
        edges.edge("STATE: there is none", WORDS, "copy(0, 0, 1) ! -2", "copy(1, 0, 2) ! -2");
        edges.edge("STATE: he may not say it", WORDS, "copy(1, 2, 0) ! -2", "copy(2, 1, 0) ! -2", "copy(1, 3, 0) ! -2",
            "copy(1, 1, 2) = 0", "copy(2, 3, 1) = 1");
        edges.edge("STATE: he may say nothing", ONE, "copy(1, 1, 0) ! -2");
        edges.edge("FULL", WORDS, "copy(0, 1, 3) ! -3", "copy(0, 2, 3) ! -3", "lift(0, 3) = 1", "copy(0, 1, 3) = 0",
            "thing(3, 0) = 5", "copy(0, 1, 3) ! -3");
        edges.edge("BAD ahead of STATE", WORDS, "copy(1, 2, 2) ! -1", "copy(1, 2, 4) ! -1", "copy(3, 0, 1) ! -1",
            "copy(0, 0, -1) ! -1", "copy(2, -1, 0) ! -1", "copy(2, 4, 0) ! -1");
        edges.edge("STATE ahead of FULL", WORDS, "copy(0, 0, 3) ! -2", "copy(1, 2, 3) ! -2", "copy(2, 1, 3) ! -2");
        edges.edge("BAD ahead of FULL", WORDS, "copy(3, 1, 3) ! -1", "copy(0, 4, 3) ! -1", "copy(0, -1, 3) ! -1");
    }

    private static void undo() {
        edges.promise(13);
        edges.edge("STATE: none", "", "undo() ! -2");
        edges.edge("STATE: none said", WORDS, "undo() ! -2", "lay(1, 0, 1) ! -2", "undo() ! -2");
        edges.edge("how many more may be", WORDS, "lay(0, 0, 0) = 0", "lay(0, 0, 1) = 9", "lift(0, 1) = 0",
            "undo() = 2", "undo() = 1", "undo() = 0", "undo() ! -2");
        for (int words = 1; words <= 26; words++) {
            String[] rows = new String[2 * words + 8];
            int row = 0;
            for (int i = 0; i < words; i++) {
                // Lay for 3 and lift for 2 by turns.
                rows[row++] = i % 2 == 0 ? "lay(0, 0, 0) = 3" : "lift(0, 0) = 0";
            }
            int known = Math.min(words, 12);
            rows[row++] = "now(3) = " + known;
            for (int more = known - 1; more >= 0; more--) {
                rows[row++] = "undo() = " + more;
            }
            int lost = words - known;
            rows[row++] = "undo() = -2";
            rows[row++] = "now(0) = " + (5 * (lost / 2) + 3 * (lost % 2));
            rows[row++] = "thing(0, 0) = " + lost % 2;
            edges.edge("12 are known, older ones are lost: of " + words, ONE, java.util.Arrays.copyOf(rows, row));
        }
        edges.edge("12 are known, some taken back between", ONE, "14 x do swap(0, 2)", "now(0) = 14", "now(3) = 12",
            "undo() = 11", "undo() = 10", "undo() = 9", "now(0) = 11", "lay(0, 0, 0) = 3", "now(3) = 10",
            "lay(0, 0, 0) = 3", "lift(0, 0) = 0", "now(3) = 12", "copy(0, 1, 0) = 0", "now(3) = 12", "now(0) = 20",
            "undo() = 11", "now(0) = 19", "undo() = 10", "undo() = 9", "undo() = 8", "now(0) = 11", "thing(0, 0) = 0",
            "8 x do undo()", "now(3) = 0", "now(0) = 3", "undo() ! -2");
        edges.edge("nothing can be said again", ONE, "lay(0, 0, 0) = 3", "undo() = 0", "undo() ! -2", "now(0) = 0",
            "thing(0, 0) = 0");
    }

    /** Behind each word and its undo() all is as it was ahead of them. */
    private static void undoneWords() {
        edges.promise(13);
        String[] words = {"lay(0, 0, 1)", "lay(2, 2, 1)", "lift(0, 3)", "lift(1, 1)", "swap(0, 2)", "swap(0, 3)",
            "copy(0, 3, 0)", "copy(0, 1, 2)", "copy(2, 2, 1)"};
        for (String word : words) {
            for (String ahead : words) {
                Script one = Script.of(WORDS);
                one.ask(ahead);
                one.ask("keep(1)");
                one.ask("saw(1, 2)");
                String as = one.all();
                if (one.ask(word) >= 0) {
                    edges.due("undo() of " + word + " behind " + ahead, one.ask("undo()"), 1);
                    edges.due("all is as ahead of " + word + " behind " + ahead, one.all().equals(as) ? 1 : 0, 1);
                }
            }
        }
        edges.edge("SPENT as ahead of it, too", WORDS, "lay(0, 0, 1) = 9", "undo() = 0", "now(0) = 0", "lift(0, 3) = 1",
            "undo() = 0", "now(0) = 0", "swap(0, 2) = 0", "undo() = 0", "now(0) = 0", "layer(2, 0) = 1");
        edges.edge("SPENT as ahead of it: COPY", Edges.GREAT, "lift(0, 0) = 0", "copy(0, 2, 1) = 0", "now(0) = 18",
            "undo() = 1", "now(0) = 9", "thing(1, 0) = 0", "undo() = 0", "now(0) = 0", "thing(0, 0) = 5");
        edges.edge("THE TRACE goes on behind undo()", WORDS, "lay(0, 0, 0) = 0", "rate(0, 1) = 1", "undo() = 0",
            "trace() = 1", "rate(1, 1) = 10", "undo() ! -2", "trace() = 12");
        edges.edge("what is refused is no WORD", WORDS, "lay(0, 0, 1) = 9", "lay(0, 3, 0) ! -3", "lift(1, 2) ! -2",
            "swap(0, 9) ! -1", "copy(0, 0, 0) ! -1", "now(3) = 1", "undo() = 0", "now(0) = 0");
        edges.edge("nothing else is a WORD", WORDS, "do saw(0, 0)", "do forget()", "do keep(0)", "do type(32, 1)",
            "do clear()", "do cheapest(0, 1, 1, 1)", "do broom(0, 0, 1, 4, 1, 1)", "do rate(5, 0)", "now(3) = 0",
            "undo() ! -2");
    }

    private static void now() {
        edges.promise(14);
        edges.bounds("0, 1, 2, 3", WORDS, "now(0)", 0, 0, 3, Edges.BAD);
        edges.bounds("0, 1, 2, 3 of nobody", "", "now(0)", 0, 0, 3, Edges.BAD);
        edges.edge("0 SPENT", WORDS, "now(0) ! 0", "50 x do lay(0, 1, 1)", "now(0) = 36", "2 x do lift(0, 1)",
            "now(0) = 54");
        String[] many = new String[402];
        for (int i = 0; i < 400; i++) {
            many[i] = i % 2 == 0 ? "lay(0, 0, 0) = 9" : "lift(0, 0) = 0";
        }
        many[400] = "now(0) = 3600";
        many[401] = "now(3) = 12";
        edges.edge("0 SPENT: as much as one likes", "spell 0 0 9 9;thing;pupil 1;", many);
        for (int hum = 1; hum <= 5; hum++) {
            int[] layers = {0, 1, 2, 5};
            int bits = 0;
            for (int t = 0; t < 4; t++) {
                bits |= layers[t] >= hum ? 1 << t : 0;
            }
            edges.edge("1 THINGS that HUM (bits), with " + hum, WORDS.replace("hum 5", "hum " + hum), "now(1) ! "
                + bits);
        }
        edges.edge("1 THINGS that HUM: all, one less, one more", "spell 0 0 0 0;thing 0;thing 0;thing 0;thing 0;hum 1;"
            + "pupil 1;", "now(1) = 15", "lift(0, 2) = 0", "now(1) = 11", "copy(0, 3, 2) = 0", "now(1) = 15");
        edges.edge("1 THINGS that HUM: the fifth LAYER", Edges.GREAT, "now(1) = 1", "lay(0, 3, 0) = 9", "now(1) = 9",
            "lift(0, 0) = 0", "now(1) = 8", "swap(0, 3) = 1", "now(1) = 8", "undo() = 2", "undo() = 1", "now(1) = 9");
        edges.edge("2 LAYERS of all THINGS", WORDS, "now(2) ! 8", "lift(0, 3) = 1", "now(2) = 7", "copy(0, 1, 0) = 0",
            "now(2) = 8", "swap(0, 2) = 0", "now(2) = 8", "lay(0, 0, 0) = 0", "now(2) = 9", "undo() = 3", "now(2) = 8");
        edges.edge("2 LAYERS of all THINGS: none", "thing;thing;", "now(2) ! 0");
        edges.edge("2 LAYERS of all THINGS: twenty", "spell 0 0 0 0;" + "thing 0 0 0 0 0;".repeat(4), "now(2) ! 20",
            "now(1) ! 15");
        edges.edge("3 how many may be UNDONE", ONE, "now(3) ! 0", "11 x do swap(0, 2)", "now(3) = 11", "swap(0, 2) = 0",
            "now(3) = 12", "swap(0, 2) = 0", "now(3) = 12", "undo() = 11", "now(3) = 11", "11 x do undo()",
            "now(3) = 0", "undo() ! -2", "now(3) = 0");
    }
}
