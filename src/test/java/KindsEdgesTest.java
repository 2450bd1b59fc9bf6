/** The edges that the document names in promises 25 to 29: kinds, images, counts, THE TRACE. */
public final class KindsEdgesTest {
    private static final String SMALL = Edges.SMALL, GREAT = Edges.GREAT;
    private static final Edges edges = new Edges("KindsEdgesTest");

    public static void main(String[] args) {
        rateBounds();
        rate();
        keep();
        back();
        count();
        trace();
        edges.end(25, 29);
    }

    private static void rateBounds() {
        edges.promise(25);
        edges.bounds("of a KIND", SMALL, "rate(0, 0)", 0, 0, 5, Edges.NO);
        edges.bounds("of a SPELL", SMALL, "rate(0, 0)", 1, 0, 2, Edges.NO);
        edges.bounds("of a SPELL of five", GREAT, "rate(5, 0)", 1, 0, 4, Edges.NO);
        edges.edge("NO: BAD, nothing is added to THE TRACE", SMALL, "rate(6, 0) ! -1000000", "rate(-1, 0) ! -1000000",
            "rate(5, 3) ! -1000000", "rate(5, -1) ! -1000000", "rate(6, 3) ! -1000000", "trace() = 0");
        edges.edge("NO: there is no such SPELL", "", "rate(0, 0) ! -1000000", "rate(5, 0) ! -1000000");
    }

    private static void rate() {
        edges.promise(25);
        String least = "spell 0 0 0 9;";
        String most = "spell 9 1 9 0;";
        String things = "thing 0 0 0 0 0;".repeat(4);
        edges.edge("SPELL its EFFECT", least + most, "rate(0, 0) = 0", "rate(0, 1) = 9");
        edges.edge("CHARM up, and LAY", least + most, "rate(1, 0) = 0", "rate(1, 1) = 18");
        edges.edge("CURSE up less LIFT", least + most, "rate(2, 0) = -9", "rate(2, 1) = 9");
        edges.edge("FLAME twice up", least + most, "rate(3, 0) = 0", "rate(3, 1) = 36");
        edges.edge("FROST up, and how many PUPILS: none", least + most, "rate(4, 0) = -9", "rate(4, 1) = 9");
        edges.edge("FROST up, and how many PUPILS: none of three", least + "spell 1 0 0 0;pupil 2;pupil 0;pupil 2;",
            "rate(4, 0) = -9", "rate(4, 1) = 3");
        edges.edge("FROST up, and how many PUPILS: one, two, three",
            "spell 0 0 0 0;spell 0 0 0 0;spell 0 0 0 0;pupil 6;pupil 4;pupil 7;", "rate(4, 0) = 1", "rate(4, 1) = 2",
            "rate(4, 2) = 3");
        edges.edge("FROST up, and how many PUPILS: all", most + "pupil 1;pupil 1;pupil 1;", "rate(4, 0) = 12");
        edges.edge("FROST: the fifth SPELL", GREAT, "rate(4, 4) = -2", "rate(4, 0) = 2", "rate(4, 1) = 1");
        edges.edge("WAX up, and in how many LAYERS: none", least + most + things, "rate(5, 1) = 9");
        edges.edge("WAX up, and in how many LAYERS: all twenty", least + most + things, "rate(5, 0) = 20");
        edges.edge("WAX up, and in how many LAYERS: as it is now", SMALL, "rate(5, 0) = 3", "lay(0, 1, 0) = 3",
            "rate(5, 0) = 4", "lift(0, 2) = 0", "rate(5, 0) = 3", "undo() = 1", "rate(5, 0) = 4", "keep(0) = 3",
            "lift(0, 0) = 0", "rate(5, 0) = 3", "back(0) = 3", "rate(5, 0) = 4");
        edges.edge("WAX up: the lowest LAYER, the uppermost", "spell 1 0 0 0;spell 2 0 0 0;thing 0 1 1 1 0;",
            "rate(5, 0) = 3", "rate(5, 1) = 5");
        edges.edge("WAX up: the spell's EFFECT, though under others", GREAT, "rate(5, 4) = 6", "rate(5, 1) = 13",
            "rate(5, 0) = 11");
    }

    private static void keep() {
        edges.promise(26);
        edges.bounds("IMAGES 0, 1", SMALL, "keep(0)", 0, 0, 1, Edges.BAD);
        edges.bounds("IMAGES 0, 1, with no school", "", "keep(0)", 0, 0, 1, Edges.BAD);
        edges.edge("what is SPENT", SMALL, "keep(0) = 0", "lay(0, 0, 1) = 4", "keep(1) = 4", "keep(0) = 4",
            "back(0) = 4", "back(1) = 4");
        edges.edge("an IMAGE is kept: anew", SMALL, "keep(0) = 0", "lay(0, 0, 1) = 4", "keep(0) = 4", "lift(0, 0) = 1",
            "back(0) = 4", "thing(0, 0) = 3", "back(1) ! -2");
        edges.edge("an IMAGE is kept: each of its own", SMALL, "keep(0) = 0", "lay(0, 0, 1) = 4", "keep(1) = 4",
            "lay(1, 1, 2) = 0", "back(0) = 0", "now(2) = 6", "back(1) = 4", "now(2) = 7", "thing(0, 0) = 3",
            "back(0) = 0", "thing(0, 0) = 2");
        edges.edge("nothing else: what can be UNDONE stays", SMALL, "lay(0, 0, 1) = 4", "keep(0) = 4", "now(3) = 1",
            "undo() = 0", "now(0) = 0", "back(0) = 4", "thing(0, 0) = 3");
        edges.edge("it stays as it was", SMALL, "keep(0) = 0", "lift(0, 0) = 0", "lift(0, 0) = 1", "copy(0, 2, 1) = 0",
            "swap(0, 2) = 0", "lift(0, 2) = 0", "back(0) = 0", "layer(0, 0) = 0", "layer(0, 1) = 1", "thing(1, 0) = 0",
            "thing(2, 0) = 4", "now(0) = 0");
    }

    private static void back() {
        edges.promise(27);
        edges.bounds("IMAGES 0, 1: BAD ahead of STATE", SMALL, "back(0)", 0, 0, 1, Edges.BAD);
        edges.bounds("IMAGES 0, 1, with no school", "", "back(0)", 0, 0, 1, Edges.BAD);
        edges.edge("STATE: none was kept", SMALL, "back(0) ! -2", "back(1) ! -2");
        edges.edge("STATE: none was kept, but the other", SMALL, "keep(0) = 0", "back(1) ! -2", "back(0) = 0");
        edges.edge("STATE: none was kept, but the other", SMALL, "keep(1) = 0", "back(0) ! -2", "back(1) = 0");
        edges.edge("STATE: none was kept, and all can be UNDONE", SMALL, "lay(0, 0, 1) = 4", "back(0) ! -2",
            "now(3) = 1", "undo() = 0");
        edges.edge("STATE: IMAGES are gone", SMALL, "keep(0) = 0", "keep(1) = 0", "school() = 0", "back(0) ! -2",
            "back(1) ! -2");
        edges.edge("IMAGES are not gone behind a fault", SMALL, "lay(0, 0, 1) = 4", "keep(0) = 4", "write x",
            "school() = -10", "back(0) = 4");
        edges.edge("LAYERS of all THINGS, SPENT", Edges.GREAT, "keep(0) = 0", "lift(0, 0) = 0", "lay(0, 1, 0) = 9",
            "copy(0, 3, 2) = 1", "swap(0, 3) = 1", "now(0) = 36", "back(0) = 0", "now(0) = 0", "thing(0, 0) = 5",
            "layer(0, 0) = 0", "thing(1, 0) = 0", "thing(2, 0) = 1", "thing(3, 0) = 4", "now(2) = 10");
        edges.edge("again, and again", SMALL, "keep(0) = 0", "lay(0, 0, 1) = 4", "back(0) = 0", "back(0) = 0",
            "lay(0, 0, 0) = 3", "back(0) = 0", "thing(0, 0) = 2");
        edges.edge("nothing can be UNDONE behind back()", SMALL, "lay(0, 0, 1) = 4", "keep(0) = 4", "lay(0, 0, 0) = 3",
            "back(0) = 4", "now(3) = 0", "undo() ! -2", "lay(0, 0, 0) = 3", "now(3) = 1", "undo() = 0", "undo() ! -2",
            "now(0) = 4");
        edges.edge("nothing else: SEEN", SMALL, "saw(0, 2) = 1", "keep(0) = 0", "saw(1, 0) = 2", "back(0) = 0",
            "count(3) = 2", "could() = 1");
        edges.edge("nothing else: THE TEXT", SMALL, "keep(0) = 0", "write thing", "back(0) = 0", "count(4) = 5",
            "write ;", "school() = 1");
        edges.edge("nothing else: THE TRACE", SMALL, "keep(0) = 0", "rate(5, 0) = 3", "back(0) = 0",
            "trace() = 100001");
        edges.edge("nothing else: the other IMAGE", SMALL, "keep(0) = 0", "lay(0, 0, 1) = 4", "keep(1) = 4",
            "back(0) = 0", "back(1) = 4", "now(0) = 4");
    }

    private static void count() {
        edges.promise(28);
        edges.bounds("0 .. 7", SMALL, "count(0)", 0, 0, 7, Edges.BAD);
        edges.bounds("0 .. 7, with no school", "", "count(0)", 0, 0, 7, Edges.BAD);
        edges.edge("as few as there may be", "swap 0;copy 0;hum 1;", "count(0) ! 0", "count(1) ! 0", "count(2) ! 0",
            "count(3) ! 0", "count(4) ! 0", "count(5) ! 0", "count(6) ! 0", "count(7) ! 1");
        edges.edge("as many as there may be", GREAT, "6 x do saw(0, 0)", "37 x do type(0, 8)", "do type(0, 4)",
            "count(0) = 5", "count(1) = 4", "count(2) = 3", "count(3) = 6", "count(4) = 300", "count(5) = 9",
            "count(6) = 9", "count(7) = 5");
        edges.edge("behind what is refused", GREAT, "7 x do saw(0, 0)", "38 x do type(0, 8)", "count(3) = 6",
            "count(4) = 296");
        edges.edge("each of its own", "spell 0 0 0 0;spell 0 0 0 0;thing;thing;thing;pupil 0;swap 6;copy 7;hum 2;",
            "saw(0, 0) = 1", "type(0, 5) = 5", "count(0) ! 2", "count(1) ! 3", "count(2) ! 1", "count(3) ! 1",
            "count(4) ! 5", "count(5) ! 6", "count(6) ! 7", "count(7) ! 2");
        edges.edge("SWAP, COPY 1, HUM 4 at first", "thing;", "count(5) ! 1", "count(6) ! 1", "count(7) ! 4");
    }

    private static void trace() {
        edges.promise(29);
        int[] added = {1, 11, 101, 1011, 10101, 100001};
        int sum = 0;
        String[] rows = new String[12];
        for (int kind = 0; kind < 6; kind++) {
            sum += added[kind];
            rows[2 * kind] = "do rate(" + kind + ", 0)";
            rows[2 * kind + 1] = "trace() ! " + sum;
            edges.edge("each once", SMALL, "trace() ! 0", "do rate(" + kind + ", 2)", "trace() ! " + added[kind]);
        }
        edges.edge("as often as rate() asks that body", SMALL, rows);
        edges.edge("as often as rate() asks that body: 400 times", SMALL, "400 x do rate(5, 0)", "trace() = 40000400");
        edges.edge("goes on behind undo(), back()", SMALL, "rate(3, 0) = 6", "lay(0, 0, 0) = 3", "keep(0) = 3",
            "rate(0, 0) = 0", "undo() = 0", "trace() = 1012", "back(0) = 3", "trace() = 1012", "rate(0, 0) = 0",
            "trace() = 1013");
        edges.edge("goes on behind school()", SMALL, "rate(3, 0) = 6", "school() = 0", "trace() = 1011",
            "rate(3, 0) ! -1000000", "trace() = 1011", "write x", "school() = -10", "trace() = 1011");
        edges.edge("nothing else is added to it", SMALL, "do lay(0, 0, 0)", "do lift(0, 0)", "do swap(0, 0)",
            "do copy(0, 0, 1)", "do cheapest(0, 7, 7, 1)", "do takes(0, 7)", "do learn(7, 1)",
            "do broom(0, 0, 1, 4, 1, 1)", "do lifted()", "trace() = 0");
    }
}
