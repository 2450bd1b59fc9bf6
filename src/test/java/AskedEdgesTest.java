/** The edges that the document names in promises 15 to 24: the cheapest, the hat, a broom, chance. */
public final class AskedEdgesTest {
    private static final String SMALL = Edges.SMALL, GREAT = Edges.GREAT;
    private static final String WALLS = "spell 0 0 1 1;spell 1 0 1 1;";
    private static final Edges edges = new Edges("AskedEdgesTest");

    public static void main(String[] args) {
        cheapestBounds();
        cheapest();
        first();
        takes();
        learn();
        saw();
        forget();
        could();
        under();
        lifted();
        broomBounds();
        broomWon();
        broomFirst();
        odds();
        edges.end(15, 24);
    }

    private static void cheapestBounds() {
        edges.promise(15);
        edges.bounds("a THING", SMALL, "cheapest(0, 0, 7, 0)", 0, 0, 2, Edges.BAD);
        edges.bounds("a THING of four", GREAT, "cheapest(0, 0, 1, 1)", 0, 0, 3, Edges.BAD);
        edges.bounds("EFFECTS 0 .. 1023", SMALL, "cheapest(0, 0, 7, 0)", 1, 0, 1023, Edges.BAD);
        edges.bounds("PUPILS (bits)", SMALL, "cheapest(0, 0, 7, 0)", 2, 0, 7, Edges.BAD);
        edges.bounds("PUPILS (bits) of two", "thing;pupil 0;pupil 0;", "cheapest(0, 0, 0, 0)", 2, 0, 3, Edges.BAD);
        edges.bounds("PUPILS (bits) of one", "thing;pupil 0;", "cheapest(0, 0, 0, 0)", 2, 0, 1, Edges.BAD);
        edges.bounds("PUPILS (bits) of nobody", "thing;", "cheapest(0, 0, 0, 0)", 2, 0, 0, Edges.BAD);
        edges.bounds("CHEAPEST (what = 0), FIRST (1)", SMALL, "cheapest(0, 0, 7, 0)", 3, 0, 1, Edges.BAD);
        edges.edge("BAD, though there is no way", SMALL, "cheapest(0, 1023, 8, 0) ! -1", "cheapest(0, 1023, 0, 2) ! -1",
            "cheapest(3, 1023, 0, 0) ! -1", "cheapest(0, 1024, 0, 0) ! -1");
        edges.edge("BAD, though none is needed", SMALL, "cheapest(0, 3, 8, 0) ! -1", "cheapest(0, 3, 0, 2) ! -1");
    }

    private static void cheapest() {
        edges.promise(15);
        edges.edge("none is needed", SMALL, "cheapest(0, 3, 0, 0) ! 0", "cheapest(0, 3, 7, 0) ! 0",
            "cheapest(1, 0, 0, 0) ! 0", "cheapest(1, 0, 7, 0) ! 0");
        edges.edge("NONE: no such EFFECT", SMALL, "cheapest(0, 8, 7, 0) ! -9", "cheapest(0, 8, 7, 1) ! -9",
            "cheapest(1, 1023, 7, 0) ! -9", "cheapest(1, 512, 7, 1) ! -9");
        edges.edge("NONE: by nobody", SMALL, "cheapest(0, 2, 0, 0) ! -9", "cheapest(0, 2, 0, 1) ! -9",
            "cheapest(0, 2, 4, 0) ! -9", "cheapest(0, 2, 4, 1) ! -9");
        edges.edge("NONE: no SPELLS", "thing;pupil 0;", "cheapest(0, 0, 1, 0) = 0", "cheapest(0, 1, 1, 0) = -9");
        // One may not be lifted; above it there is room for none, one, two.
        String under = "spell 0 1 0 0;spell 1 1 2 0;spell 2 1 3 0;thing 0 0 0 0 0;thing 0 0 0 0;thing 0 0 0;pupil 6;";
        edges.edge("NONE: 5 LAYERS", under, "cheapest(0, 3, 1, 0) = -9", "cheapest(1, 3, 1, 0) = 2",
            "cheapest(1, 7, 1, 0) = -9", "cheapest(2, 7, 1, 0) = 5", "cheapest(0, 1, 1, 0) = 0");
        edges.edge("NONE: what may not be lifted is seen", under, "cheapest(2, 6, 1, 0) = -9",
            "cheapest(2, 2, 1, 0) = -9", "cheapest(2, 0, 1, 0) = -9");
        edges.edge("it WORKS just so: not more, not less", WALLS + "spell 2 1 1 1;thing 0 2;pupil 7;swap 9;",
            "cheapest(0, 5, 1, 0) = 0", "cheapest(0, 1, 1, 0) = 1", "cheapest(0, 4, 1, 0) = 3",
            "cheapest(0, 0, 1, 0) = 2", "cheapest(0, 7, 1, 0) = -9", "cheapest(0, 6, 1, 0) = 2");
        edges.edge("it WORKS just so: nothing", GREAT, "cheapest(0, 0, 1, 0) = 45", "cheapest(1, 0, 1, 0) = 0",
            "cheapest(3, 0, 1, 0) = 36", "cheapest(2, 0, 4, 0) = -9");
        edges.edge("a full THING: nothing is laid ahead of a LIFT",
            "spell 0 0 9 5;spell 1 0 9 9;thing 0 0 0 0 0;pupil 3;", "cheapest(0, 2, 1, 0) = 14",
            "cheapest(0, 2, 1, 1) = 5");
        edges.edge("a full THING of the highest SPELL", "spell 0 0 1 1;".repeat(4)
            + "spell 1 0 1 2;thing 4 4 4 4 4;thing 4 4 4 4;pupil 31;swap 0;", "cheapest(0, 2, 1, 1) = -5",
            "cheapest(0, 1, 1, 0) = 3", "cheapest(0, 1, 1, 1) = 5", "cheapest(0, 0, 1, 0) = 10",
            "cheapest(1, 1, 1, 0) = 1", "cheapest(1, 1, 1, 1) = 0", "cheapest(1, 0, 1, 0) = 8", "lift(0, 0) = 4",
            "lay(0, 0, 4) = 1", "cheapest(0, 0, 1, 0) ! 10");
        edges.edge("nothing is changed by asking", GREAT, "150 x cheapest(0, 480, 1, 0) = 9",
            "150 x cheapest(3, 992, 1, 0) = 63", "150 x cheapest(0, 0, 1, 1) = 5", "cheapest(1, 992, 1, 1) = 0");
        edges.edge("as much as five of all", GREAT, "cheapest(1, 992, 1, 0) = 45", "cheapest(1, 992, 4, 0) = -9",
            "cheapest(1, 480, 4, 0) = 36", "cheapest(0, 992, 1, 0) = 0", "cheapest(0, 480, 1, 0) = 9");
        // Costs of 0 alone.
        edges.edge("least cost: 0, though words are needed", "spell 0 0 0 0;spell 1 0 0 0;thing 0;pupil 3;swap 0;",
            "cheapest(0, 2, 1, 0) = 0", "cheapest(0, 2, 1, 1) = 1", "cheapest(0, 0, 1, 0) = 0",
            "cheapest(0, 0, 1, 1) = 5");
        // Pupils 0 and 1 may say one each, pupil 2 both.
        String two = "spell 0 0 3 3;spell 1 0 4 4;thing 0 1;pupil 1;pupil 2;pupil 3;swap 1;";
        edges.edge("SWAP (he may say both): one of these PUPILS", two, "cheapest(0, 1, 3, 0) = 3",
            "cheapest(0, 1, 3, 1) = 0", "cheapest(0, 1, 4, 0) = 1", "cheapest(0, 1, 4, 1) = 6",
            "cheapest(0, 1, 7, 0) = 1", "cheapest(0, 1, 2, 0) = 4", "cheapest(0, 1, 2, 1) = 5",
            "cheapest(0, 1, 1, 0) = 3", "cheapest(0, 1, 0, 0) = -9");
        edges.edge("that THING alone", WALLS + "thing 0;thing 1;pupil 3;copy 0;", "cheapest(0, 2, 1, 0) = 1",
            "cheapest(0, 2, 1, 1) = 1");
        edges.edge("as it is now", WALLS + "thing;pupil 3;", "cheapest(0, 1, 1, 0) = 1", "lay(0, 0, 0) = 1",
            "cheapest(0, 1, 1, 0) ! 0", "cheapest(0, 0, 1, 0) ! 1", "now(0) = 1", "undo() = 0",
            "cheapest(0, 1, 1, 1) ! 0");
    }

    /** On top of 1 lies 0; only the 1 is to work: LAY 1, LAY 2, LIFT or SWAP will do. */
    private static String fourWays(int lay1, int lay2, int lift, int swap) {
        return "spell 0 0 9 " + lift + ";spell 1 0 " + lay1 + " 9;spell 1 0 " + lay2
            + " 9;thing 1 0;pupil 7;pupil 0;swap " + swap + ";";
    }

    private static void first() {
        edges.promise(15);
        edges.edge("-5: none is needed", SMALL, "cheapest(0, 3, 0, 1) ! -5", "cheapest(0, 3, 7, 1) ! -5",
            "cheapest(1, 0, 0, 1) ! -5");
        edges.edge("-5: none is needed, though words cost 0", "spell 0 0 0 0;thing 0 0;pupil 1;swap 0;",
            "cheapest(0, 1, 1, 0) = 0", "cheapest(0, 1, 1, 1) = -5");
        // What LAY 1, LAY 2, LIFT, SWAP cost, and the first word then.
        int[][] ways = {{1, 1, 1, 1, 1}, {2, 1, 1, 1, 2}, {2, 2, 1, 1, 5}, {2, 2, 2, 1, 6}, {1, 2, 2, 2, 1},
            {2, 1, 2, 2, 2}, {2, 2, 1, 2, 5}, {0, 0, 0, 0, 1}, {1, 0, 0, 0, 2}, {1, 1, 0, 0, 5}, {1, 1, 1, 0, 6},
            {9, 9, 9, 9, 1}};
        for (int[] way : ways) {
            int least = Math.min(Math.min(way[0], way[1]), Math.min(way[2], way[3]));
            edges.edge("the least there is", fourWays(way[0], way[1], way[2], way[3]), "cheapest(0, 2, 1, 0) = "
                + least, "cheapest(0, 2, 1, 1) = " + way[4]);
        }
        edges.edge("LAY: the SPELL 0", "spell 0 0 1 1;spell 1 0 1 1;thing 0 1;pupil 3;", "cheapest(0, 1, 1, 1) = 0");
        edges.edge("LAY: the SPELL 4", GREAT, "cheapest(1, 32, 1, 1) = 4", "cheapest(1, 32, 1, 0) = 9");
        edges.edge("LAY: the least of several rows", "spell 0 1 1 1;spell 1 1 1 1;thing;pupil 3;",
            "cheapest(0, 3, 1, 0) = 2", "cheapest(0, 3, 1, 1) = 0");
        // LIFT for 2, or LAY 0, LAY 1 for 1 each.
        edges.edge("of least cost those of the fewest WORDS",
            "spell 0 0 1 9;spell 1 1 1 9;spell 2 0 9 2;thing 0 1 2;pupil 7;swap 9;", "cheapest(0, 3, 1, 0) = 2",
            "cheapest(0, 3, 1, 1) = 5");
        edges.edge("least cost ahead of the fewest WORDS",
            "spell 0 0 1 9;spell 1 1 1 9;spell 2 0 9 3;thing 0 1 2;pupil 7;swap 9;", "cheapest(0, 3, 1, 0) = 2",
            "cheapest(0, 3, 1, 1) = 0");
        edges.edge("the fewest WORDS, all for 0",
            "spell 0 0 0 0;spell 1 1 0 0;spell 2 0 0 0;thing 0 1 2;pupil 7;swap 0;", "cheapest(0, 3, 1, 0) = 0",
            "cheapest(0, 3, 1, 1) = 5");
        // Five lifts for 0, or one LAY for 1.
        edges.edge("least cost ahead of the fewest WORDS: 0",
            "spell 0 0 9 0;spell 1 0 1 0;thing 1 0 0 0;pupil 3;swap 9;", "cheapest(0, 2, 1, 0) = 0",
            "cheapest(0, 2, 1, 1) = 5");
        edges.edge("SWAP first, then LIFT", "spell 0 0 9 9;spell 1 0 9 1;thing 1 0;pupil 3;swap 1;",
            "cheapest(0, 2, 1, 1) = 6", "cheapest(0, 1, 1, 1) = -5", "cheapest(0, 0, 1, 0) = 10",
            "cheapest(0, 0, 1, 1) = 5");
        edges.edge("SWAP, LIFT, SWAP", "spell 0 1 9 9;spell 1 1 9 0;spell 2 1 9 9;thing 0 1 2;pupil 7;swap 1;",
            "cheapest(0, 5, 1, 0) = 1", "cheapest(0, 5, 1, 1) = 6");
    }

    private static void takes() {
        edges.promise(16);
        edges.bounds("a THING", SMALL, "takes(0, 3)", 0, 0, 2, Edges.BAD);
        edges.bounds("a THING of four", GREAT, "takes(0, 992)", 0, 0, 3, Edges.BAD);
        edges.bounds("EFFECTS", SMALL, "takes(0, 3)", 1, 0, 1023, Edges.BAD);
        edges.edge("the fewest: none", SMALL, "takes(0, 3) ! 0", "takes(1, 0) ! 0", "takes(2, 3) ! 0",
            "takes(2, 7) ! 2");
        edges.edge("none, with nobody", "spell 0 0 0 0;thing;thing 0;", "takes(0, 0) ! 0", "takes(1, 1) ! 0",
            "takes(0, 1) ! -9", "takes(1, 0) ! -9");
        edges.edge("NONE: nothing, over one that may not be lifted", WALLS
            + "spell 2 1 0 0;thing 2;thing 2 0 1;pupil 3;pupil 1;", "takes(0, 0) ! -9", "takes(1, 0) ! -9",
            "takes(1, 4) ! 1", "takes(0, 4) ! 0", "takes(0, 6) ! -9");
        edges.edge("NONE", SMALL, "takes(0, 8) ! -9", "takes(1, 1023) ! -9", "takes(1, 512) ! -9");
        String glass = "spell 0 1 0 0;spell 1 1 0 0;spell 2 1 0 0;thing;";
        edges.edge("of several sets the least bits: one", glass + "pupil 1;pupil 1;pupil 1;", "takes(0, 1) ! 1",
            "takes(0, 2) ! -9");
        edges.edge("of several sets the least bits: not the first", glass + "pupil 2;pupil 1;pupil 1;",
            "takes(0, 1) ! 2");
        edges.edge("of several sets the least bits: the last", glass + "pupil 2;pupil 2;pupil 1;", "takes(0, 1) ! 4");
        edges.edge("of several sets the least bits: two", glass + "pupil 1;pupil 2;pupil 2;", "takes(0, 3) ! 3");
        edges.edge("of several sets the least bits: two others", glass + "pupil 1;pupil 1;pupil 2;", "takes(0, 3) ! 5");
        edges.edge("of several sets the least bits: the last two", glass + "pupil 4;pupil 1;pupil 2;",
            "takes(0, 3) ! 6");
        edges.edge("the fewest: one of great bits ahead of two", glass + "pupil 1;pupil 2;pupil 3;", "takes(0, 3) ! 4");
        edges.edge("the fewest: all", glass + "pupil 1;pupil 2;pupil 4;", "takes(0, 7) ! 7", "takes(0, 6) ! 6",
            "takes(0, 5) ! 5");
        edges.edge("5 LAYERS", "spell 0 1 0 0;spell 1 1 0 0;thing 0 0 0 0 0;thing 0 0 0 0;pupil 2;pupil 3;",
            "takes(0, 3) ! 2", "takes(1, 3) ! 1");
        edges.edge("one to lift, one to lay", WALLS + "thing 0 0 0 0 0;pupil 2;pupil 1;pupil 0;", "takes(0, 2) ! 3",
            "takes(0, 0) ! 2");
        edges.edge("as it is now", WALLS + "thing;pupil 3;", "takes(0, 1) = 1", "lay(0, 0, 0) = 1", "takes(0, 1) ! 0",
            "takes(0, 0) ! 1");
    }

    private static void learn() {
        edges.promise(17);
        edges.bounds("EFFECTS", SMALL, "learn(0, 0)", 0, 0, 1023, Edges.BAD);
        edges.bounds("how many (what = 0), the set (1)", SMALL, "learn(1, 0)", 1, 0, 1, Edges.BAD);
        edges.edge("BAD, though there is none", SMALL, "learn(1023, 2) ! -1", "learn(1023, -1) ! -1",
            "learn(1024, 2) ! -1");
        edges.edge("the fewest: none", SMALL, "learn(0, 0) ! 0", "learn(0, 1) ! 0");
        edges.edge("NONE", SMALL, "learn(8, 0) ! -9", "learn(8, 1) ! -9", "learn(1023, 0) ! -9", "learn(9, 1) ! -9");
        edges.edge("NONE: no SPELLS", "thing;", "learn(0, 0) = 0", "learn(1, 0) = -9", "learn(1, 1) = -9");
        edges.edge("NONE: two that are not GLASS", WALLS, "learn(1, 0) = 1", "learn(2, 1) = 2", "learn(3, 0) = -9",
            "learn(3, 1) = -9");
        edges.edge("5 LAYERS at most: all five", GREAT, "learn(992, 0) ! 5", "learn(992, 1) ! 31", "learn(480, 0) = 4",
            "learn(480, 1) = 30", "learn(512, 1) = 1", "learn(32, 1) = 16");
        edges.edge("5 LAYERS at most: the lowest not GLASS", GREAT.replace("spell 5 1", "spell 5 0"),
            "learn(992, 1) = 31", "learn(32, 1) = 16", "learn(96, 1) = 24");
        edges.edge("5 LAYERS at most: two not GLASS",
            GREAT.replace("spell 5 1", "spell 5 0").replace("spell 6 1", "spell 6 0"), "learn(992, 1) = -9",
            "learn(96, 0) = -9", "learn(480, 1) = -9", "learn(448, 1) = 14", "learn(416, 1) = 22");
        String same = "spell 3 0 0 0;spell 3 1 0 0;spell 4 0 0 0;spell 4 1 0 0;spell 3 1 0 0;";
        edges.edge("of several sets the least bits", same, "learn(8, 1) = 1", "learn(16, 1) = 4", "learn(24, 0) = 2",
            "learn(24, 1) = 6");
        edges.edge("of several sets the least bits: alike", "spell 9 0 0 0;".repeat(5), "learn(512, 0) = 1",
            "learn(512, 1) = 1");
        edges.edge("pupils are not asked", "spell 0 0 0 0;pupil 0;thing;", "learn(1, 1) ! 1");
    }

    private static void saw() {
        edges.promise(18);
        edges.bounds("l (0 .. 3)", SMALL, "saw(0, 0)", 0, 0, 3, Edges.BAD);
        edges.bounds("EFFECTS", SMALL, "saw(0, 0)", 1, 0, 1023, Edges.BAD);
        edges.bounds("EFFECTS, with no school", "", "saw(3, 0)", 1, 0, 1023, Edges.BAD);
        edges.edge("how much there is; 6 at most", SMALL, "saw(0, 0) = 1", "saw(1, 1) = 2", "saw(2, 2) = 3",
            "saw(3, 0) = 4", "saw(0, 1023) = 5", "saw(0, 0) = 6", "saw(0, 0) ! -3", "saw(3, 1023) ! -3",
            "count(3) = 6");
        edges.edge("BAD ahead of FULL", SMALL, "6 x do saw(0, 0)", "saw(4, 0) ! -1", "saw(-1, 0) ! -1",
            "saw(0, 1024) ! -1", "saw(0, -1) ! -1", "saw(0, 0) ! -3");
        edges.edge("FULL: no more behind forget()", SMALL, "6 x do saw(0, 0)", "saw(0, 0) ! -3", "forget() = 6",
            "saw(3, 0) = 1", "could() = 27");
        edges.edge("each of six counts", SMALL, "5 x do saw(0, 0)", "could() = 1", "saw(1, 0) = 6", "could() = 0");
        edges.edge("it touches nothing else", SMALL, "saw(1, 2) = 1", "now(2) = 6", "now(0) = 0", "now(3) = 0",
            "undo() ! -2");
    }

    private static void forget() {
        edges.promise(19);
        edges.edge("how much there was: none", "", "forget() ! 0", "count(3) = 0");
        edges.edge("how much there was: one", SMALL, "saw(0, 8) = 1", "could() = 0", "forget() = 1", "forget() ! 0",
            "count(3) = 0", "could() = 40");
        edges.edge("how much there was: six", SMALL, "6 x do saw(2, 1)", "forget() = 6", "forget() ! 0",
            "saw(2, 1) = 1");
        edges.edge("what was told stays", SMALL, "lay(0, 0, 0) = 3", "saw(0, 0) = 1", "keep(0) = 3", "forget() = 1",
            "now(0) = 3", "now(3) = 1", "back(0) = 3", "count(0) = 3");
    }

    private static void could() {
        edges.promise(20);
        int[] all = {1, 4, 15, 40, 85, 156};
        for (int spells = 0; spells <= 5; spells++) {
            edges.edge("0 to 3 LAYERS of " + spells + " SPELLS", "spell 0 1 0 0;".repeat(spells), "could() ! "
                + all[spells]);
            int two = spells * spells;
            edges.edge("it had l at least", "spell 0 1 0 0;".repeat(spells), "saw(3, 0) = 1", "could() ! "
                + two * spells, "forget() = 1", "saw(2, 0) = 1", "could() ! " + two, "saw(3, 0) = 2", "could() ! 0",
                "forget() = 2", "saw(1, 0) = 1", "could() ! " + spells, "saw(1, 0) = 2", "could() ! " + spells,
                "forget() = 2", "saw(0, 0) = 1", "could() ! 1");
        }
        edges.edge("3 LAYERS lifted leave nothing", SMALL, "saw(3, 1) = 1", "could() ! 0");
        edges.edge("2 LAYERS lifted leave one at most", SMALL, "saw(2, 3) = 1", "could() ! 0");
        // Nought lies under the glass of 0 or 2, or none is glass: 1 alone.
        edges.edge("it WORKED just so", SMALL, "saw(0, 2) = 1", "could() ! 13", "saw(1, 2) = 2", "could() ! 4",
            "saw(2, 2) = 3", "could() ! 1", "saw(3, 0) = 4", "could() ! 1", "saw(3, 2) = 5", "could() ! 0");
        edges.edge("it can be none", SMALL, "saw(0, 1023) = 1", "could() ! 0", "forget() = 1", "could() ! 40");
        edges.edge("things do not matter, SPELLS do", SMALL, "saw(0, 1) = 1", "could() ! 3", "lay(0, 0, 0) = 3",
            "could() ! 3", "write spell 0 1 0 0;", "school() = 1", "could() ! 4", "saw(0, 1) = 1", "could() ! 3");
    }

    private static void under() {
        edges.promise(21);
        edges.bounds("LAYER d from above (0 .. 2)", SMALL, "under(0)", 0, 0, 2, Edges.BAD);
        edges.bounds("LAYER d from above (0 .. 2), with no school", "", "under(0)", 0, 0, 2, Edges.BAD);
        edges.edge("BAD ahead of NONE", SMALL, "saw(0, 1023) = 1", "under(3) ! -1", "under(-1) ! -1", "under(2) ! -9");
        edges.edge("that all of these have", SMALL, "saw(0, 2) = 1", "under(0) ! 1", "under(1) ! -5", "saw(1, 5) = 2",
            "under(1) ! -5", "saw(2, 1) = 3", "under(0) ! 1", "under(1) ! 2", "under(2) ! 0");
        edges.edge("that all of these have: three LAYERS", SMALL, "saw(0, 7) = 1", "saw(1, 6) = 2", "saw(2, 2) = 3",
            "could() = 1", "under(0) ! 0", "under(1) ! 2", "under(2) ! 1");
        edges.edge("-5: not all alike", SMALL, "saw(3, 0) = 1", "under(0) ! -5", "under(1) ! -5", "under(2) ! -5");
        edges.edge("-5: where some have none there", "spell 0 0 0 0;", "saw(1, 0) = 1", "under(0) ! 0", "forget() = 1",
            "under(0) ! -5", "saw(0, 1) = 1", "under(0) ! 0", "under(1) ! -5", "under(2) ! -5");
        edges.edge("-5: where all have none there", SMALL, "saw(0, 0) = 1", "under(0) ! -5", "under(1) ! -5",
            "under(2) ! -5", "forget() = 1", "saw(0, 2) = 1", "saw(1, 0) = 2", "under(0) ! 1", "under(1) ! -5");
        edges.edge("NONE: it has 3 LAYERS at most", "spell 0 0 0 0;", "saw(3, 1) = 1", "under(0) ! -9", "under(1) ! -9",
            "under(2) ! -9");
        edges.edge("NONE: it can be none", SMALL, "saw(0, 1023) = 1", "under(0) ! -9", "under(1) ! -9", "under(2) ! -9",
            "forget() = 1", "under(0) ! -5");
        edges.edge("the SPELL 4", GREAT, "saw(2, 32) = 1", "could() = 25", "under(2) ! 4", "under(1) ! -5",
            "under(0) ! -5");
        edges.edge("the SPELL 0", GREAT, "saw(0, 512) = 1", "saw(2, 0) = 2", "under(0) ! 0", "under(1) ! 0",
            "under(2) ! -5", "could() = 1");
    }

    private static void lifted() {
        edges.promise(22);
        edges.edge("of several the least: the empty row alone", "", "lifted() ! 0");
        edges.edge("of several the least: one row", SMALL, "saw(0, 7) = 1", "saw(1, 6) = 2", "saw(2, 2) = 3",
            "could() = 1", "lifted() ! 0");
        edges.edge("NONE", SMALL, "saw(0, 1023) = 1", "lifted() ! -9", "forget() = 1", "saw(3, 1) = 1",
            "lifted() ! -9");
        // Rows of 0, 1, 2, 3 layers alike. 0 lifted: 1, 3. 1 lifted: 1 too short, 1, 2. 2 lifted: 2 too short, 1, 1.
        edges.edge("they count as one answer more", "spell 0 0 0 0;", "could() = 4", "lifted() ! 1");
        // Rows of 1, 2, 3 layers. 0 lifted: 3. 1 lifted: 1, 2. 2 lifted: 1 too short, 1, 1.
        edges.edge("2 LAYERS", "spell 0 0 0 0;", "saw(0, 1) = 1", "could() = 3", "lifted() ! 2");
        // Rows of 2, 3 layers. 0 lifted: 2. 1 lifted: 2. 2 lifted: 1, 1. 3 lifted: 1 too short, 1.
        edges.edge("2 LAYERS ahead of 3", "spell 0 0 0 0;", "saw(1, 1) = 1", "could() = 2", "lifted() ! 2");
        // Rows of 3 layers, of one spell or the other, none glass: 4 of each behind any number of lifts but 3.
        edges.edge("of several the least: three alike", WALLS, "saw(3, 0) = 1", "could() = 8", "lifted() ! 0");
        edges.edge("1 LAYER", WALLS, "saw(3, 0) = 1", "saw(0, 1) = 2", "could() = 4", "lifted() ! 1");
        edges.edge("2 LAYERS, the uppermost known", WALLS, "saw(3, 0) = 1", "saw(0, 1) = 2", "saw(1, 2) = 3",
            "could() = 2", "lifted() ! 2", "saw(2, 1) = 4", "could() = 1", "lifted() ! 0");
        edges.edge("as many as there may be", GREAT, "could() = 156", "lifted() ! 0", "6 x do saw(0, 992)",
            "lifted() ! -9");
    }

    private static final String BROOM = WALLS + "spell 1 1 0 0;thing;thing 0;thing 0 1;thing 1 0 0 0 0;pupil 7;pupil 1;"
        + "pupil 0;";

    private static void broomBounds() {
        edges.promise(23);
        edges.bounds("a THING", BROOM, "broom(0, 0, 1, 1, 0, 0)", 0, 0, 3, Edges.BAD);
        // What would be one and the same is beyond, too.
        edges.bounds("PUPILS a, b", BROOM, "broom(0, 0, 2, 1, 0, 0)", 1, 0, 1, Edges.BAD);
        edges.bounds("PUPILS a, b", BROOM, "broom(0, 0, 0, 1, 0, 0)", 1, 1, 2, Edges.BAD);
        edges.bounds("PUPILS a, b", BROOM, "broom(0, 2, 0, 1, 0, 0)", 2, 0, 1, Edges.BAD);
        edges.bounds("PUPILS a, b", BROOM, "broom(0, 0, 0, 1, 0, 0)", 2, 1, 2, Edges.BAD);
        edges.bounds("n (0 .. 4)", BROOM, "broom(0, 0, 1, 0, 0, 0)", 3, 0, 4, Edges.BAD);
        edges.bounds("x 0 .. 9", BROOM, "broom(0, 0, 1, 1, 0, 0)", 4, 0, 9, Edges.BAD);
        edges.bounds("what", BROOM, "broom(0, 0, 1, 1, 0, 0)", 5, 0, 1, Edges.BAD);
        edges.edge("BAD (a, b one and the same, too)", BROOM, "broom(0, 0, 0, 1, 0, 0) ! -1",
            "broom(0, 1, 1, 0, 0, 1) ! -1", "broom(1, 2, 2, 4, 0, 0) ! -1");
        edges.edge("BAD ahead of NONE", BROOM, "broom(0, 0, 1, 0, 10, 1) ! -1", "broom(0, 0, 1, 5, 9, 1) ! -1",
            "broom(0, 0, 1, -1, 9, 1) ! -1", "broom(0, 0, 3, 0, 0, 1) ! -1");
    }

    private static void broomWon() {
        edges.promise(23);
        edges.edge("n 0: as it is", BROOM, "broom(1, 0, 1, 0, 0, 0) ! 1", "broom(1, 2, 0, 0, 0, 0) ! 1",
            "broom(1, 0, 1, 0, 1, 0) ! 0", "broom(0, 0, 1, 0, 0, 0) ! 0");
        edges.edge("NONE (n 0, or not WON)", BROOM, "broom(1, 0, 1, 0, 0, 1) ! -9", "broom(0, 0, 1, 0, 0, 1) ! -9",
            "broom(0, 2, 1, 1, 0, 1) ! -9", "broom(0, 0, 1, 4, 1, 1) ! -9");
        edges.edge("n 1: a alone", BROOM, "broom(0, 0, 1, 1, 0, 0) ! 1", "broom(0, 0, 1, 1, 1, 0) ! 1",
            "broom(0, 1, 0, 1, 1, 0) ! 0", "broom(0, 2, 0, 1, 0, 0) ! 0", "broom(0, 0, 1, 1, 9, 0) ! 0");
        // b can lay a 0 that hides all, wherever there is room, or lift a 0 and lay one.
        edges.edge("n 2: b has the last word", BROOM, "broom(0, 0, 1, 2, 1, 0) ! 0", "broom(0, 0, 2, 2, 1, 0) ! 1",
            "broom(0, 1, 0, 2, 0, 0) ! 0", "broom(0, 1, 2, 2, 0, 0) ! 1");
        edges.edge("n 3: a has the last word", BROOM, "broom(0, 0, 1, 3, 1, 0) ! 1", "broom(0, 1, 0, 3, 0, 0) ! 1",
            "broom(0, 1, 0, 3, 1, 0) ! 0", "broom(0, 2, 0, 3, 0, 0) ! 0");
        edges.edge("n 4: b has the last word", BROOM, "broom(0, 0, 1, 4, 1, 0) ! 0", "broom(0, 0, 2, 4, 1, 0) ! 1",
            "broom(0, 1, 0, 4, 0, 0) ! 0");
        // A full thing 1 0 0 0 0: LAY only behind a LIFT, so b, who may say 0 alone, cannot hide what he did not lift.
        edges.edge("a full THING", BROOM, "broom(3, 0, 1, 1, 1, 0) ! 0", "broom(3, 0, 1, 1, 0, 0) ! 1",
            "broom(3, 0, 2, 3, 1, 0) ! 1", "broom(3, 0, 2, 3, 1, 1) ! 5", "broom(3, 0, 2, 2, 1, 0) ! 0");
        edges.edge("costs are not asked", "spell 0 0 9 9;thing;pupil 1;pupil 0;swap 9;", "broom(0, 0, 1, 1, 0, 0) ! 1",
            "broom(0, 0, 1, 1, 0, 1) ! 0", "broom(0, 0, 1, 4, 0, 0) ! 1");
        edges.edge("EFFECT x among its WORKS: 9", GREAT, "broom(2, 0, 1, 0, 9, 0) ! 1", "broom(1, 0, 1, 1, 9, 0) ! 1",
            "broom(1, 0, 1, 1, 9, 1) ! 0", "broom(1, 0, 1, 1, 4, 0) ! 0");
        edges.edge("in the end, not on the way", WALLS + "thing 0;pupil 0;pupil 3;", "broom(0, 0, 1, 1, 0, 0) ! 1",
            "broom(0, 0, 1, 2, 0, 0) ! 0", "broom(0, 0, 1, 3, 0, 0) ! 0", "broom(0, 1, 0, 4, 0, 0) ! 1");
    }

    private static void broomFirst() {
        edges.promise(23);
        edges.edge("7 nothing", BROOM, "broom(1, 2, 0, 1, 0, 1) ! 7", "broom(2, 2, 0, 1, 1, 1) ! 7",
            "broom(1, 2, 0, 1, 1, 1) ! -9");
        edges.edge("7 nothing: a full THING that is well",
            "spell 0 0 0 0;spell 1 0 0 0;thing 1 1 1 1 0;pupil 1;pupil 0;", "broom(0, 0, 1, 1, 0, 1) ! 7",
            "broom(0, 0, 1, 1, 1, 1) ! 5");
        edges.edge("the least such number: LAY ahead of nothing", BROOM, "broom(1, 0, 2, 1, 0, 1) ! 0",
            "broom(2, 0, 2, 1, 1, 1) ! 1");
        edges.edge("the least such number: LAY 1", fourWays(1, 1, 1, 1), "broom(0, 0, 1, 1, 1, 1) ! 1");
        edges.edge("the least such number: LIFT ahead of SWAP",
            "spell 0 0 1 1;spell 1 0 1 1;thing 0 0 0 1 0;pupil 3;pupil 0;", "broom(0, 0, 1, 1, 1, 1) ! 5");
        edges.edge("the least such number: LIFT ahead of nothing", "spell 0 0 1 1;thing 0 0 0 0 0;pupil 1;pupil 0;",
            "broom(0, 0, 1, 1, 0, 1) ! 5");
        edges.edge("LIFT of the last: b leaves nothing", "spell 0 0 0 0;thing 0;pupil 1;pupil 0;",
            "broom(0, 1, 0, 2, 0, 0) ! 0", "broom(0, 1, 0, 2, 0, 1) ! -9", "broom(0, 1, 0, 1, 0, 1) ! 7",
            "broom(0, 0, 1, 2, 0, 1) ! 0", "broom(0, 1, 0, 3, 0, 0) ! 0", "broom(0, 1, 0, 4, 0, 0) ! 0");
        // One under two 0; a may say both, and the thing is full: SWAP does nothing, LIFT, LIFT is needed.
        edges.edge("LIFT first of two", "spell 0 0 1 1;spell 1 0 1 1;thing 0 0 1 0 0;pupil 1;pupil 0;",
            "broom(0, 0, 1, 1, 1, 0) ! 0", "broom(0, 0, 1, 2, 1, 0) ! 0", "broom(0, 0, 1, 3, 1, 0) ! 1",
            "broom(0, 0, 1, 3, 1, 1) ! 5");
        // Full: 1 0 on top. Lifted, b lays 1 again; with 0 and 1 changed b, who may say 1 alone, can do nothing.
        edges.edge("SWAP", "spell 0 0 0 0;spell 1 0 0 0;thing 1 1 1 0 1;pupil 3;pupil 2;",
            "broom(0, 0, 1, 2, 0, 0) ! 1", "broom(0, 0, 1, 2, 0, 1) ! 6", "broom(0, 0, 1, 1, 0, 1) ! 5",
            "broom(0, 0, 1, 4, 0, 0) ! 1");
        edges.edge("LAY: the SPELL 4", GREAT, "broom(1, 2, 1, 1, 5, 1) ! 4", "broom(1, 1, 2, 1, 5, 1) ! -9",
            "broom(1, 0, 1, 4, 5, 0) ! 1", "broom(1, 0, 1, 4, 5, 1) ! 0");
    }

    private static void odds() {
        edges.promise(24);
        edges.bounds("k (0 .. 9)", "", "odds(0, 3, 1)", 0, 0, 9, Edges.BAD);
        edges.bounds("p of 10 (0 .. 10)", "", "odds(3, 0, 1)", 1, 0, 10, Edges.BAD);
        edges.bounds("upper (what = 0), lower number (1)", "", "odds(3, 3, 0)", 2, 0, 1, Edges.BAD);
        edges.edge("no WORDS: 1 of 1", "", "odds(0, 0, 0) ! 1", "odds(0, 0, 1) ! 1", "odds(0, 10, 0) ! 1",
            "odds(0, 10, 1) ! 1", "odds(0, 7, 0) = 1", "odds(0, 7, 1) = 1");
        edges.edge("none goes wrong: 1 of 1", "", "odds(1, 0, 0) = 1", "odds(1, 0, 1) = 1", "odds(9, 0, 0) = 1",
            "odds(9, 0, 1) = 1");
        edges.edge("each goes wrong: 0 of 1", "", "odds(1, 10, 0) = 0", "odds(1, 10, 1) = 1", "odds(9, 10, 0) = 0",
            "odds(9, 10, 1) = 1");
        edges.edge("the greatest numbers", "", "odds(9, 9, 0) = 1", "odds(9, 9, 1) = 1000000000",
            "odds(9, 1, 0) = 387420489", "odds(9, 1, 1) = 1000000000");
        for (int k = 0; k <= 9; k++) {
            for (int p = 0; p <= 10; p++) {
                long upper = 1;
                long lower = 1;
                for (int i = 0; i < k; i++) {
                    upper *= 10 - p;
                    lower *= 10;
                }
                long a = lower;
                for (long b = upper; b > 0; ) {
                    long rest = a % b;
                    a = b;
                    b = rest;
                }
                edges.edge("in least terms", "", "odds(" + k + ", " + p + ", 0) = " + upper / a, "odds(" + k + ", " + p
                    + ", 1) = " + lower / a);
            }
        }
    }
}
