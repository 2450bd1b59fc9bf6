/** Promise by promise: ordinary calls, the edges that the document names, wrong numbers. */
public final class PromisesTest {
    private static final int LEAST = Integer.MIN_VALUE, MOST = Integer.MAX_VALUE;
    private static final String SMALL = Edges.SMALL;
    private static final String GREAT = "spell 9 1 9 9;spell 8 1 9 9;spell 7 1 9 9;spell 6 1 9 9;spell 5 0 9 9;"
        + "thing 4 3 2 1 0;thing;thing 0;thing 1 1 1 1;pupil 31;pupil 1;pupil 30;swap 0;copy 9;hum 5;";

    private static final Check check = new Check("PromisesTest");
    private static int promise;

    public static void main(String[] args) {
        newObject();
        type();
        clear();
        schoolItems();
        schoolFaults();
        schoolAnew();
        spell();
        thing();
        layer();
        pupil();
        lay();
        lift();
        swap();
        copy();
        undo();
        now();
        cheapest();
        cheapestFirst();
        takes();
        learn();
        sawAndForget();
        could();
        under();
        lifted();
        broom();
        odds();
        rate();
        keepAndBack();
        count();
        trace();
        constants();
        check.end();
    }

    private static void due(String call, long got, long want) {
        check.due("promise " + promise + ": " + call, got, want);
    }

    private static Counted small() {
        return Check.school(SMALL);
    }

    /** Holds that a call answers so, and changes nothing. */
    private static void refused(Counted x, String call, java.util.function.LongSupplier asked, long want) {
        String ahead = x.all();
        due(call, asked.getAsLong(), want);
        check.holds("promise " + promise + ": " + call + " changes nothing", x.all().equals(ahead));
    }

    private static void newObject() {
        promise = 1;
        Counted x = new Counted();
        int[] counts = {0, 0, 0, 0, 0, 1, 1, 4};
        for (int what = 0; what < 8; what++) {
            due("count(" + what + ")", x.count(what), counts[what]);
        }
        for (int what = 0; what < 4; what++) {
            due("now(" + what + ")", x.now(what), 0);
        }
        due("spell(0, 0)", x.spell(0, 0), -1);
        due("thing(0, 0)", x.thing(0, 0), -1);
        due("layer(0, 0)", x.layer(0, 0), -1);
        due("pupil(0)", x.pupil(0), -1);
        due("lay(0, 0, 0)", x.lay(0, 0, 0), -1);
        due("undo()", x.undo(), -2);
        due("cheapest(0, 0, 0, 0)", x.cheapest(0, 0, 0, 0), -1);
        due("takes(0, 0)", x.takes(0, 0), -1);
        due("learn(0, 0)", x.learn(0, 0), 0);
        due("learn(1, 0)", x.learn(1, 0), -9);
        due("could()", x.could(), 1);
        due("under(0)", x.under(0), -5);
        due("lifted()", x.lifted(), 0);
        due("broom(0, 0, 1, 0, 0, 0)", x.broom(0, 0, 1, 0, 0, 0), -1);
        due("rate(0, 0)", x.rate(0, 0), -1000000);
        due("back(0)", x.back(0), -2);
        due("back(1)", x.back(1), -2);
        due("trace()", x.trace(), 0);
        Counted other = small();
        other.lay(0, 0, 0);
        due("now(2) beside another object", x.now(2), 0);
    }

    private static void type() {
        promise = 2;
        Counted x = new Counted();
        due("type(.., 0)", x.type(59, 0), -1);
        due("type(.., 9)", x.type(59, 9), -1);
        due("type(.., -1)", x.type(59, -1), -1);
        due("type(.., least)", x.type(59, LEAST), -1);
        due("type(.., most)", x.type(59, MOST), -1);
        due("count(4)", x.count(4), 0);
        // "hum 5;" with other bytes above it, which are not taken.
        due("type(.., 6)", x.type(0x7A7A68756D20353BL, 6), 6);
        due("school()", x.school(), 1);
        due("count(7)", x.count(7), 5);
        due("type(-1, 1)", x.type(-1, 1), 1);
        due("school() of byte 255", x.school(), -10);
        x.clear();
        for (int i = 1; i <= 37; i++) {
            due("type(.., 8)", x.type(0x2020202020202020L, 8), 8 * i);
        }
        due("type(.., 5) beyond 300", x.type(0x2020202020L, 5), -3);
        due("type(.., 0) in a full text", x.type(0, 0), -1);
        due("count(4)", x.count(4), 296);
        due("type(.., 4)", x.type(0x20202020, 4), 300);
        due("type(.., 1) beyond 300", x.type(0x20, 1), -3);
        due("school() of 300 blanks", x.school(), 0);
        due("count(4)", x.count(4), 0);
    }

    private static void clear() {
        promise = 3;
        Counted x = small();
        due("clear()", x.clear(), 0);
        x.type(0x6162, 2);
        x.type(0x63, 1);
        due("clear()", x.clear(), 3);
        due("clear()", x.clear(), 0);
        due("count(4)", x.count(4), 0);
        due("count(0)", x.count(0), 3);
        due("school()", x.school(), 0);
    }

    private static void reads(String text, int want) {
        Counted x = small();
        Check.write(x, text);
        if (want < 0) {
            refused(x, "school() of \"" + text + "\"", x::school, want);
        } else {
            due("school() of \"" + text + "\"", x.school(), want);
            due("count(4)", x.count(4), 0);
        }
    }

    private static void schoolItems() {
        promise = 4;
        reads("", 0);
        reads("   ", 0);
        reads(SMALL, 12);
        reads(GREAT, 15);
        reads("  spell   0  1 2   3  ;  thing  ;thing 0  ;   ", 3);
        reads("spell0 1 2 3;thing0;thing;pupil1;swap0;copy9;hum1;", 7);
        reads("hum 5;copy 0;swap 9;", 3);
        reads("pupil 0;pupil 0;pupil 0;thing;thing;thing;thing;", 7);
        reads("spell 9 0 9 9;pupil 1;spell 0 0 0 0;pupil 3;pupil 2;", 5);
        reads("spell 0 0 0 0;thing 0 0 0 0 0;thing 0 0 0 0;", 3);
    }

    private static void schoolFaults() {
        promise = 4;
        reads("spell 0 0 0 0", -10 - 13);
        reads("spell 0 0 0 0  ", -10 - 15);
        reads("spell 0 0 0 ", -10 - 12);
        reads("thing", -10 - 5);
        reads("thing 0", -10 - 6);
        reads("hum", -10 - 3);
        reads("spell 10 0 0 0;", -10 - 6);
        reads("spell 0 2 0 0;", -10 - 8);
        reads("spell 0 0 10 0;", -10 - 10);
        reads("spell 0 0 0 10;", -10 - 12);
        reads("spell 0 0 0;", -10 - 11);
        reads("spell 0 0 0 0 0;", -10 - 14);
        reads("spell;", -10 - 5);
        reads(";", -10);
        reads(" 5;", -10 - 1);
        reads("spell 0 0 0 0;;", -10 - 14);
        reads("spell spell", -10 - 6);
        reads("spell 0 0 0 thing;", -10 - 12);
        reads("thing 0;spell 0 0 0 0;", -10 - 6);
        reads("spell 0 0 0 0;thing 0 1;", -10 - 22);
        reads("spell 0 0 0 0;thing 0 0 0 0 0 0;", -10 - 30);
        reads("spell 0 0 0 0;thing 0 0 0 0 0", -10 - 29);
        reads("pupil 1;spell 0 0 0 0;", -10 - 6);
        reads("spell 0 0 0 0;pupil 2;", -10 - 20);
        reads("pupil;", -10 - 5);
        reads("pupil 0 0;", -10 - 8);
        reads("thing;thing;thing;thing;thing;", -10 - 24);
        reads("pupil 0;pupil 0;pupil 0;pupil 0;", -10 - 24);
        reads("spell 0 0 0 0;".repeat(6), -10 - 70);
        reads("spell 0 0 0 0;".repeat(5), 5);
        reads("swap 1;copy 1;hum 1;swap 1;", -10 - 20);
        reads("copy 1;copy 1;", -10 - 7);
        reads("hum 1;hum 1;", -10 - 6);
        reads("hum 0;", -10 - 4);
        reads("hum 6;", -10 - 4);
        reads("swap 10;", -10 - 5);
        reads("copy 10;", -10 - 5);
        reads("swap 1 1;", -10 - 7);
        reads("copy 1 1;", -10 - 7);
        reads("hum 1 1;", -10 - 6);
        reads("swap 01;", -10 - 5);
        reads("swap 00;", -10 - 5);
        reads("swap 100;", -10 - 5);
        reads("swap 4294967296;", -10 - 5);
        reads("swap 18446744073709551617;", -10 - 5);
        reads("swap -1;", -10 - 5);
        reads("swap1copy;", -10 - 5);
        reads("spells 0 0 0 0;", -10);
        reads("spel 0 0 0 0;", -10);
        reads("Spell 0 0 0 0;", -10);
        reads("sPell 0 0 0 0;", -10);
        reads("hum 1;hug 1;", -10 - 6);
        reads("thingthing;", -10);
        reads("humz 1;", -10);
        reads("huma 1;", -10);
        reads("hum 1;\u00ff", -10 - 6);
        reads("hum 1;\n", -10 - 6);
        reads("hum 1;\u0000", -10 - 6);
        reads("hum 1:", -10 - 5);
        reads("hum `1;", -10 - 4);
        reads("hum 1{;", -10 - 5);
        reads("hum 1/;", -10 - 5);
        // 300 bytes, the fault in the last of them.
        reads("hum 1;" + " ".repeat(293) + "x", -10 - 299);
        reads("hum 1" + " ".repeat(295), -10 - 300);
        reads("hum 1" + " ".repeat(294) + ";", 1);
        Counted x = new Counted();
        Check.write(x, "hum");
        due("school() too early", x.school(), -13);
        Check.write(x, " 2;");
        due("school() of the text that stayed, and more", x.school(), 1);
        due("count(7)", x.count(7), 2);
    }

    private static void schoolAnew() {
        promise = 4;
        Counted x = small();
        x.rate(0, 0);
        x.lay(0, 1, 1);
        x.saw(0, 0);
        x.keep(0);
        x.keep(1);
        due("undo() ahead", x.now(3), 1);
        Check.write(x, "thing;");
        due("school()", x.school(), 1);
        int[] counts = {0, 1, 0, 0, 0, 1, 1, 4};
        for (int what = 0; what < 8; what++) {
            due("count(" + what + ") anew", x.count(what), counts[what]);
        }
        due("thing(0, 0)", x.thing(0, 0), 0);
        due("now(0)", x.now(0), 0);
        due("now(2)", x.now(2), 0);
        due("now(3)", x.now(3), 0);
        due("undo()", x.undo(), -2);
        due("back(0)", x.back(0), -2);
        due("back(1)", x.back(1), -2);
        due("trace()", x.trace(), 1);
        Check.write(x, SMALL);
        due("school()", x.school(), 12);
        Check.write(x, "x");
        x.lift(0, 0);
        refused(x, "school() of a fault", x::school, -10);
        due("school() reads the text that stayed", x.school(), -10);
        due("now(3) behind a fault", x.now(3), 1);
        due("undo() behind a fault", x.undo(), 0);
        due("layer(0, 0)", x.layer(0, 0), 0);
    }

    private static void spell() {
        promise = 5;
        Counted x = small();
        int[][] told = {{0, 1, 3, 2}, {1, 0, 4, 1}, {2, 1, 0, 9}};
        for (int s = 0; s < 3; s++) {
            for (int what = 0; what < 4; what++) {
                due("spell(" + s + ", " + what + ")", x.spell(s, what), told[s][what]);
            }
        }
        for (int wrong : new int[] {-1, 3, 4, 5, 6, LEAST, MOST}) {
            due("spell(" + wrong + ", 0)", x.spell(wrong, 0), -1);
        }
        for (int wrong : new int[] {-1, 4, LEAST, MOST}) {
            due("spell(0, " + wrong + ")", x.spell(0, wrong), -1);
        }
    }

    private static void thing() {
        promise = 6;
        Counted x = small();
        int[][] told = {{2, 3, 0}, {0, 0, 0}, {4, 3, 1}};
        for (int t = 0; t < 3; t++) {
            for (int what = 0; what < 3; what++) {
                due("thing(" + t + ", " + what + ")", x.thing(t, what), told[t][what]);
            }
        }
        for (int wrong : new int[] {-1, 3, 4, LEAST, MOST}) {
            due("thing(" + wrong + ", 0)", x.thing(wrong, 0), -1);
            due("thing(0, " + wrong + ")", x.thing(0, wrong), -1);
        }
        Counted great = Check.school(GREAT);
        due("thing(0, 1) through four of glass", great.thing(0, 1), 992);
        due("thing(0, 2) of just so many", great.thing(0, 2), 1);
        due("thing(3, 2) of one too few", great.thing(3, 2), 0);
        due("thing(3, 1) four times the same", great.thing(3, 1), 256);
    }

    private static void layer() {
        promise = 7;
        Counted x = small();
        int[] told = {0, 0, 1, 2, -5, -5};
        for (int d = 0; d < told.length; d++) {
            due("layer(2, " + d + ")", x.layer(2, d), told[d]);
        }
        due("layer(1, 0)", x.layer(1, 0), -5);
        due("layer(0, most)", x.layer(0, MOST), -5);
        due("layer(0, -1)", x.layer(0, -1), -1);
        due("layer(0, least)", x.layer(0, LEAST), -1);
        for (int wrong : new int[] {-1, 3, 4, LEAST, MOST}) {
            due("layer(" + wrong + ", 0)", x.layer(wrong, 0), -1);
        }
    }

    private static void pupil() {
        promise = 8;
        Counted x = small();
        due("pupil(0)", x.pupil(0), 3);
        due("pupil(1)", x.pupil(1), 4);
        due("pupil(2)", x.pupil(2), 0);
        for (int wrong : new int[] {-1, 3, 4, LEAST, MOST}) {
            due("pupil(" + wrong + ")", x.pupil(wrong), -1);
        }
        due("pupil(1) of two", Check.school("pupil 0;pupil 0;").pupil(2), -1);
    }

    private static void lay() {
        promise = 9;
        Counted x = small();
        due("lay(0, 1, 1)", x.lay(0, 1, 1), 4);
        due("lay(1, 1, 2)", x.lay(1, 1, 2), 0);
        due("layer(1, 0)", x.layer(1, 0), 2);
        due("layer(1, 1)", x.layer(1, 1), 1);
        due("thing(1, 1)", x.thing(1, 1), 6);
        due("now(0)", x.now(0), 4);
        for (int wrong : new int[] {-1, 3, LEAST, MOST}) {
            refused(x, "lay(" + wrong + ", 0, 0)", () -> x.lay(wrong, 0, 0), -1);
            refused(x, "lay(0, " + wrong + ", 0)", () -> x.lay(0, wrong, 0), -1);
            refused(x, "lay(0, 0, " + wrong + ")", () -> x.lay(0, 0, wrong), -1);
            refused(x, "lay(2, 0, " + wrong + "), BAD ahead of STATE", () -> x.lay(2, 0, wrong), -1);
        }
        refused(x, "lay(0, 0, 2)", () -> x.lay(0, 0, 2), -2);
        refused(x, "lay(2, 0, 0)", () -> x.lay(2, 0, 0), -2);
        due("lay(0, 2, 0), the fifth", x.lay(0, 2, 0), 3);
        refused(x, "lay(0, 2, 0), the sixth", () -> x.lay(0, 2, 0), -3);
        refused(x, "lay(0, 2, 2), STATE ahead of FULL", () -> x.lay(0, 2, 2), -2);
    }

    private static void lift() {
        promise = 10;
        Counted x = small();
        due("lift(0, 0)", x.lift(0, 0), 0);
        due("now(0)", x.now(0), 2);
        due("lift(0, 0)", x.lift(0, 0), 1);
        due("now(0)", x.now(0), 3);
        due("thing(0, 0)", x.thing(0, 0), 0);
        refused(x, "lift(0, 0) of none", () -> x.lift(0, 0), -2);
        refused(x, "lift(1, 2) by another", () -> x.lift(1, 2), -2);
        x.lift(0, 2);
        x.lift(0, 2);
        x.lift(0, 2);
        refused(x, "lift(0, 2) of what he may not", () -> x.lift(0, 2), -2);
        due("lift(1, 2)", x.lift(1, 2), 2);
        due("now(0)", x.now(0), 3 + 2 + 2 + 1 + 9);
        for (int wrong : new int[] {-1, 3, LEAST, MOST}) {
            refused(x, "lift(" + wrong + ", 1)", () -> x.lift(wrong, 1), -1);
            refused(x, "lift(2, " + wrong + ")", () -> x.lift(2, wrong), -1);
        }
    }

    private static void swap() {
        promise = 11;
        Counted x = small();
        due("swap(0, 0)", x.swap(0, 0), 1);
        due("layer(0, 0)", x.layer(0, 0), 1);
        due("layer(0, 1)", x.layer(0, 1), 0);
        due("thing(0, 1)", x.thing(0, 1), 2);
        due("now(0)", x.now(0), 2);
        due("swap(0, 2) of two alike", x.swap(0, 2), 0);
        due("now(0)", x.now(0), 4);
        due("now(3)", x.now(3), 2);
        refused(x, "swap(0, 1) of none", () -> x.swap(0, 1), -2);
        x.lay(0, 1, 0);
        refused(x, "swap(0, 1) of one", () -> x.swap(0, 1), -2);
        x.lay(1, 1, 2);
        refused(x, "swap(0, 1), not the upper", () -> x.swap(0, 1), -2);
        refused(x, "swap(1, 1), not the lower", () -> x.swap(1, 1), -2);
        for (int wrong : new int[] {-1, 3, LEAST, MOST}) {
            refused(x, "swap(" + wrong + ", 0)", () -> x.swap(wrong, 0), -1);
            refused(x, "swap(0, " + wrong + ")", () -> x.swap(0, wrong), -1);
        }
        Counted deep = Check.school("spell 0 0 0 0;spell 1 0 0 0;spell 2 0 0 0;thing 0 1 2;pupil 7;");
        due("swap(0, 0) of three", deep.swap(0, 0), 1);
        due("layer(0, 0)", deep.layer(0, 0), 1);
        due("layer(0, 1)", deep.layer(0, 1), 2);
        due("layer(0, 2)", deep.layer(0, 2), 0);
        due("now(0), 1 at first", deep.now(0), 1);
    }

    private static void copy() {
        promise = 12;
        Counted x = small();
        due("copy(0, 0, 1)", x.copy(0, 0, 1), 0);
        due("layer(1, 0)", x.layer(1, 0), 0);
        due("thing(0, 0)", x.thing(0, 0), 2);
        due("now(0)", x.now(0), 5);
        refused(x, "copy(1, 0, 1)", () -> x.copy(1, 0, 1), -2);
        refused(x, "copy(0, 0, 0)", () -> x.copy(0, 0, 0), -1);
        refused(x, "copy(2, 2, 2)", () -> x.copy(2, 2, 2), -1);
        due("copy(0, 0, 2), the fifth", x.copy(0, 0, 2), 0);
        refused(x, "copy(0, 0, 2), the sixth", () -> x.copy(0, 0, 2), -3);
        refused(x, "copy(1, 0, 2), STATE ahead of FULL", () -> x.copy(1, 0, 2), -2);
        x.lift(0, 1);
        refused(x, "copy(0, 1, 0) of none", () -> x.copy(0, 1, 0), -2);
        refused(x, "copy(0, 1, 2) of none on a full one", () -> x.copy(0, 1, 2), -2);
        for (int wrong : new int[] {-1, 3, LEAST, MOST}) {
            refused(x, "copy(" + wrong + ", 0, 1)", () -> x.copy(wrong, 0, 1), -1);
            refused(x, "copy(0, " + wrong + ", 1)", () -> x.copy(0, wrong, 1), -1);
            refused(x, "copy(0, 0, " + wrong + ")", () -> x.copy(0, 0, wrong), -1);
        }
        Counted first = Check.school("spell 0 0 9 9;thing 0;thing;pupil 1;");
        due("copy(0, 0, 1)", first.copy(0, 0, 1), 0);
        due("now(0), 1 at first", first.now(0), 1);
    }

    private static void undo() {
        promise = 13;
        Counted x = small();
        refused(x, "undo() of none", x::undo, -2);
        String start = x.looks();
        x.lay(0, 0, 1);
        x.lift(0, 2);
        x.swap(0, 0);
        String ahead = x.looks();
        x.copy(0, 0, 1);
        due("undo() of copy", x.undo(), 3);
        check.holds("undo() of copy leaves all as ahead", x.looks().equals(ahead));
        due("undo() of swap", x.undo(), 2);
        due("layer(0, 0)", x.layer(0, 0), 1);
        due("now(0)", x.now(0), 6);
        due("undo() of lift", x.undo(), 1);
        due("layer(2, 1)", x.layer(2, 1), 0);
        due("now(0)", x.now(0), 4);
        due("undo() of lay", x.undo(), 0);
        check.holds("undo() of all leaves the start", x.looks().equals(start));
        due("undo()", x.undo(), -2);
        for (int i = 0; i < 15; i++) {
            due("now(3)", x.now(3), Math.min(i, 12));
            x.swap(0, 0);
        }
        due("now(0)", x.now(0), 30);
        for (int i = 11; i >= 0; i--) {
            due("undo()", x.undo(), i);
        }
        due("undo() of older ones", x.undo(), -2);
        due("now(0) of the three lost", x.now(0), 6);
        due("layer(0, 0)", x.layer(0, 0), 1);
        x.rate(0, 0);
        x.lay(0, 0, 0);
        x.rate(0, 0);
        x.undo();
        due("trace() behind undo()", x.trace(), 2);
    }

    private static void now() {
        promise = 14;
        Counted x = small();
        due("now(0)", x.now(0), 0);
        due("now(1)", x.now(1), 4);
        due("now(2)", x.now(2), 6);
        due("now(3)", x.now(3), 0);
        x.lay(0, 0, 1);
        due("now(0)", x.now(0), 4);
        due("now(1)", x.now(1), 5);
        due("now(2)", x.now(2), 7);
        due("now(3)", x.now(3), 1);
        x.lift(2, 0);
        due("now(3) behind what was refused", x.now(3), 1);
        for (int wrong : new int[] {-1, 4, LEAST, MOST}) {
            due("now(" + wrong + ")", x.now(wrong), -1);
        }
        due("now(1) of hum 4", Check.school("spell 0 0 0 0;thing 0 0 0;thing 0 0 0 0;thing 0 0 0 0 0;").now(1), 6);
        due("now(1) of hum 1", Check.school("hum 1;spell 0 0 0 0;thing;thing 0;").now(1), 2);
    }

    private static void cheapest() {
        promise = 15;
        Counted x = small();
        String ahead = x.looks();
        // Thing 0 is 1 below 0: works 3.
        due("cheapest(0, 3, 0, 0) as it is", x.cheapest(0, 3, 0, 0), 0);
        due("cheapest(0, 3, 0, 1) as it is", x.cheapest(0, 3, 0, 1), -5);
        due("cheapest(0, 0, 1, 0) all lifted", x.cheapest(0, 0, 1, 0), 3);
        due("cheapest(0, 0, 1, 1) all lifted", x.cheapest(0, 0, 1, 1), 5);
        due("cheapest(0, 2, 0, 0) by nobody", x.cheapest(0, 2, 0, 0), -9);
        due("cheapest(0, 2, 1, 0) lift or swap", x.cheapest(0, 2, 1, 0), 2);
        due("cheapest(0, 2, 1, 1) lift is less than swap", x.cheapest(0, 2, 1, 1), 5);
        due("cheapest(0, 2, 4, 0) by one who may not", x.cheapest(0, 2, 4, 0), -9);
        due("cheapest(0, 7, 2, 0)", x.cheapest(0, 7, 2, 0), 0);
        due("cheapest(0, 7, 2, 1)", x.cheapest(0, 7, 2, 1), 2);
        due("cheapest(1, 4, 2, 0)", x.cheapest(1, 4, 2, 0), 0);
        due("cheapest(1, 5, 3, 0)", x.cheapest(1, 5, 3, 0), 3);
        due("cheapest(1, 5, 3, 1) of two orders", x.cheapest(1, 5, 3, 1), 0);
        due("cheapest(1, 6, 3, 1) only one order", x.cheapest(1, 6, 3, 1), 1);
        due("cheapest(1, 8, 7, 0) with no such spell", x.cheapest(1, 8, 7, 0), -9);
        due("cheapest(1, 1023, 7, 1)", x.cheapest(1, 1023, 7, 1), -9);
        due("cheapest(2, 5, 7, 0) by lift, swap, lift", x.cheapest(2, 5, 7, 0), 5);
        check.holds("cheapest() changes nothing", x.looks().equals(ahead));
        for (int wrong : new int[] {-1, 3, LEAST, MOST}) {
            due("cheapest(" + wrong + ", ..)", x.cheapest(wrong, 0, 0, 0), -1);
        }
        for (int wrong : new int[] {-1, 1024, LEAST, MOST}) {
            due("cheapest(0, " + wrong + ", ..)", x.cheapest(0, wrong, 1, 0), -1);
        }
        for (int wrong : new int[] {-1, 8, LEAST, MOST}) {
            due("cheapest(0, 3, " + wrong + ", 0)", x.cheapest(0, 3, wrong, 0), -1);
        }
        for (int wrong : new int[] {-1, 2, LEAST, MOST}) {
            due("cheapest(0, 3, 0, " + wrong + ")", x.cheapest(0, 3, 0, wrong), -1);
        }
        due("cheapest() with no pupils", Check.school("thing;").cheapest(0, 0, 0, 1), -5);
        due("cheapest() with no pupils, set 1", Check.school("thing;").cheapest(0, 0, 1, 1), -1);
    }

    private static void cheapestFirst() {
        promise = 15;
        // All is free: the fewest words, then the least number.
        Counted free = Check.school("spell 0 0 0 0;spell 0 1 0 0;spell 1 0 0 0;thing 2 0;pupil 7;swap 0;");
        due("swap or lift or lay: lay", free.cheapest(0, 2, 1, 1), 2);
        due("least of two spells", Check.school("spell 1 0 0 0;spell 0 0 0 0;spell 0 1 0 0;thing;pupil 7;")
            .cheapest(0, 1, 1, 1), 1);
        // The least cost goes ahead of the fewest words: two words for 2, or one for 9.
        Counted cost = Check.school("spell 0 0 9 0;spell 1 0 1 1;spell 2 1 1 1;thing 0 1;pupil 7;swap 9;");
        due("cost ahead of words", cost.cheapest(0, 1, 1, 0), 1);
        due("lift", cost.cheapest(0, 1, 1, 1), 5);
        Counted long2 = Check.school("spell 0 0 9 0;spell 1 1 1 1;spell 2 0 1 1;thing 0 1;pupil 7;swap 9;");
        due("two words for 2", long2.cheapest(0, 6, 1, 0), 2);
        due("lay 2, lay 1 needs no lift", long2.cheapest(0, 6, 1, 1), 2);
        // A full thing: nothing can be laid ahead of a lift.
        Counted full = Check.school("spell 0 0 0 5;spell 1 0 0 0;thing 0 0 0 0 0;pupil 3;");
        due("lift, then lay", full.cheapest(0, 2, 1, 0), 5);
        due("lift, then lay", full.cheapest(0, 2, 1, 1), 5);
        // One pupil must be able to say both to swap; together they lift and lay.
        Counted two = Check.school("spell 0 0 3 3;spell 1 0 4 4;thing 0 1;pupil 1;pupil 2;pupil 3;swap 1;");
        due("swap by one who may say both", two.cheapest(0, 1, 4, 0), 1);
        due("swap by none", two.cheapest(0, 1, 3, 0), 3);
        due("lay", two.cheapest(0, 1, 3, 1), 0);
        Counted great = Check.school(GREAT);
        due("far", great.cheapest(0, 512, 7, 0), 36);
        due("five laid", great.cheapest(1, 992, 1, 0), 45);
        due("five laid, the lowest first", great.cheapest(1, 992, 1, 1), 4);
        due("three lifted, 4 laid and changed places", great.cheapest(3, 992, 1, 0), 63);
    }

    private static void takes() {
        promise = 16;
        Counted x = small();
        due("takes(0, 3)", x.takes(0, 3), 0);
        due("takes(0, 2)", x.takes(0, 2), 1);
        due("takes(0, 7)", x.takes(0, 7), 2);
        due("takes(1, 5)", x.takes(1, 5), 3);
        due("takes(1, 8)", x.takes(1, 8), -9);
        for (int wrong : new int[] {-1, 3, LEAST, MOST}) {
            due("takes(" + wrong + ", 0)", x.takes(wrong, 0), -1);
        }
        for (int wrong : new int[] {-1, 1024, LEAST, MOST}) {
            due("takes(0, " + wrong + ")", x.takes(0, wrong), -1);
        }
        Counted y = Check.school("spell 0 1 0 0;spell 1 1 0 0;spell 2 1 0 0;thing;pupil 1;pupil 2;pupil 7;");
        due("takes(): one ahead of two", y.takes(0, 3), 4);
        due("takes(): the least of several", y.takes(0, 1), 1);
        Counted z = Check.school("spell 0 1 0 0;spell 1 1 0 0;spell 2 1 0 0;thing;pupil 1;pupil 3;pupil 6;");
        due("takes(): two, the least bits", z.takes(0, 7), 5);
        due("takes(): all", Check.school("spell 0 1 0 0;spell 1 1 0 0;spell 2 1 0 0;thing;pupil 1;pupil 2;pupil 4;")
            .takes(0, 7), 7);
        Counted full = Check.school("spell 0 1 0 0;spell 1 1 0 0;thing 0 0 0 0 0;pupil 2;pupil 3;");
        due("takes(): no room for one who may not lift", full.takes(0, 3), 2);
        Counted under = Check.school("spell 0 0 0 0;spell 1 1 0 0;thing 1 0;pupil 2;pupil 1;");
        due("takes(): what lies under one that he may not", under.takes(0, 2), 2);
        due("takes(): nobody in the school", Check.school("thing;").takes(0, 0), 0);
    }

    private static void learn() {
        promise = 17;
        Counted x = small();
        int[][] told = {{0, 0, 0}, {1, 1, 1}, {2, 1, 2}, {4, 1, 4}, {3, 2, 3}, {5, 2, 5}, {7, 3, 7}, {8, -9, -9}};
        for (int[] row : told) {
            due("learn(" + row[0] + ", 0)", x.learn(row[0], 0), row[1]);
            due("learn(" + row[0] + ", 1)", x.learn(row[0], 1), row[2]);
        }
        Counted walls = Check.school("spell 0 0 0 0;spell 1 0 0 0;spell 1 1 0 0;spell 0 1 0 0;");
        due("learn(3, 1): one of them of glass", walls.learn(3, 1), 5);
        due("learn(1, 1): the least of two", walls.learn(1, 1), 1);
        due("learn(3, 0)", Check.school("spell 0 0 0 0;spell 1 0 0 0;").learn(3, 0), -9);
        due("learn(992, 1)", Check.school(GREAT).learn(992, 1), 31);
        for (int wrong : new int[] {-1, 1024, LEAST, MOST}) {
            due("learn(" + wrong + ", 0)", x.learn(wrong, 0), -1);
        }
        for (int wrong : new int[] {-1, 2, LEAST, MOST}) {
            due("learn(0, " + wrong + ")", x.learn(0, wrong), -1);
        }
    }

    private static void sawAndForget() {
        promise = 18;
        Counted x = small();
        for (int wrong : new int[] {-1, 4, LEAST, MOST}) {
            refused(x, "saw(" + wrong + ", 0)", () -> x.saw(wrong, 0), -1);
        }
        for (int wrong : new int[] {-1, 1024, LEAST, MOST}) {
            refused(x, "saw(0, " + wrong + ")", () -> x.saw(0, wrong), -1);
        }
        for (int i = 1; i <= 6; i++) {
            due("saw(3, 0)", x.saw(3, 0), i);
        }
        refused(x, "saw(0, 0), the seventh", () -> x.saw(0, 0), -3);
        refused(x, "saw(4, 0), the seventh, BAD", () -> x.saw(4, 0), -1);
        due("count(3)", x.count(3), 6);
        due("could()", x.could(), 27);
        promise = 19;
        due("forget()", x.forget(), 6);
        due("forget()", x.forget(), 0);
        due("count(3)", x.count(3), 0);
        due("could()", x.could(), 40);
        promise = 18;
        due("saw(0, 1023)", x.saw(0, 1023), 1);
        due("could()", x.could(), 0);
        Counted y = small();
        y.saw(1, 2);
        due("saw(1, 2) does not touch the things", y.now(2), 6);
    }

    private static void could() {
        promise = 20;
        Counted x = small();
        due("could()", x.could(), 40);
        x.saw(3, 0);
        due("could() with three", x.could(), 27);
        x.saw(2, 2);
        due("could() with 1 lowest", x.could(), 9);
        x.saw(1, 7);
        due("could() with none", x.could(), 0);
        x.forget();
        x.saw(0, 0);
        due("could() of nothing seen to work: the empty one", x.could(), 1);
        x.forget();
        x.saw(2, 0);
        due("could() of two or more", x.could(), 9);
        due("could() of none of five", Check.school(GREAT).could(), 156);
    }

    private static void under() {
        promise = 21;
        Counted x = small();
        due("under(0) of all", x.under(0), -5);
        x.saw(0, 2);
        due("under(0) with 1 alone at work", x.under(0), 1);
        due("under(1) of some, or none there", x.under(1), -5);
        x.saw(1, 4);
        due("under(0)", x.under(0), 1);
        due("under(1)", x.under(1), 2);
        due("under(2), 2 or none", x.under(2), -5);
        x.saw(2, 0);
        due("under(2), none", x.under(2), -5);
        due("could()", x.could(), 1);
        x.saw(3, 0);
        for (int d = 0; d < 3; d++) {
            due("under(" + d + ") of none", x.under(d), -9);
        }
        for (int wrong : new int[] {-1, 3, LEAST, MOST}) {
            due("under(" + wrong + ")", x.under(wrong), -1);
        }
        Counted y = small();
        y.saw(2, 4);
        y.saw(3, 0);
        due("under(2) of three", y.under(2), 2);
    }

    private static void lifted() {
        promise = 22;
        due("lifted() with no spells", new Counted().lifted(), 0);
        Counted x = Check.school("spell 0 0 1 1;spell 1 1 1 1;spell 0 1 0 0;");
        due("lifted()", x.lifted(), 2);
        x.saw(0, 3);
        due("lifted()", x.lifted(), 1);
        x.saw(1, 1);
        due("lifted()", x.lifted(), 2);
        x.saw(3, 0);
        due("could() of three: 1 on 0 and any, on 2 0, on 2 2", x.could(), 5);
        x.saw(0, 0);
        due("lifted() of none", x.lifted(), -9);
        // Rows of 0 to 3 layers alike: 0 lifted leaves 1 or 3; 1 lifted 1 (too few), 1, 2; 2 lifted 2 (too few), 1, 1.
        Counted y = Check.school("spell 0 0 0 0;");
        due("could()", y.could(), 4);
        due("lifted(), 1 and 2 alike", y.lifted(), 1);
        y.saw(2, 0);
        due("could()", y.could(), 1);
        due("lifted() of one row", y.lifted(), 0);
        // Two rows of two, six of three: 0 lifted leaves 8, 1 lifted 2, 2, 4, 2 lifted 2, 3, 3, 3 lifted 2 (too few)
        // and 6.
        Counted z = Check.school("spell 0 1 0 0;spell 1 1 0 0;");
        z.saw(0, 3);
        due("could()", z.could(), 8);
        due("lifted()", z.lifted(), 2);
    }

    private static void broom() {
        promise = 23;
        Counted x = Check.school("spell 0 0 1 1;spell 1 1 1 1;thing;thing 0;thing 0 1;pupil 3;pupil 1;pupil 0;swap 9;");
        String ahead = x.looks();
        due("broom n 0, it is so", x.broom(1, 0, 1, 0, 0, 0), 1);
        due("broom n 0, it is so, first", x.broom(1, 0, 1, 0, 0, 1), -9);
        due("broom n 0, it is not so", x.broom(0, 0, 1, 0, 0, 0), 0);
        due("broom n 1", x.broom(0, 0, 1, 1, 1, 0), 1);
        due("broom n 1, first", x.broom(0, 0, 1, 1, 1, 1), 1);
        due("broom n 1, by one who may not", x.broom(0, 1, 0, 1, 1, 0), 0);
        due("broom n 1, by one who may not, first", x.broom(0, 1, 0, 1, 1, 1), -9);
        due("broom n 2, the other covers it", x.broom(0, 0, 1, 2, 1, 0), 0);
        due("broom n 2, the other may nothing", x.broom(0, 0, 2, 2, 1, 0), 1);
        due("broom n 2, the other may nothing, first", x.broom(0, 0, 2, 2, 1, 1), 1);
        due("broom n 1, lift", x.broom(2, 0, 1, 1, 0, 1), 0);
        due("broom n 1, he says nothing", x.broom(2, 2, 0, 1, 0, 1), 7);
        due("broom n 1, a lay is less than nothing", x.broom(1, 0, 2, 1, 0, 1), 0);
        due("broom n 3, a has the last word", x.broom(0, 0, 1, 3, 1, 0), 1);
        due("broom n 4, b has the last word", x.broom(0, 0, 1, 4, 1, 0), 0);
        check.holds("broom() changes nothing", x.looks().equals(ahead));
        Counted full = Check.school("spell 0 0 0 0;spell 1 0 0 0;thing 0 0 0 0 0;thing 0 0 0 1 0;pupil 3;pupil 3;");
        due("broom on a full thing, one word", full.broom(0, 0, 1, 1, 1, 0), 0);
        due("broom on a full thing, lift", full.broom(1, 0, 1, 1, 1, 1), 5);
        Counted swap = Check.school("spell 0 0 0 0;spell 1 0 0 0;spell 2 0 0 0;thing 0 0 0 1 2;"
            + "thing 1 2;pupil 6;pupil 0;");
        due("broom by swap or lift", swap.broom(0, 0, 1, 1, 1, 1), 5);
        due("broom, lay", swap.broom(1, 0, 1, 1, 1, 1), 1);
        Counted only = Check.school("spell 0 0 0 0;spell 1 0 0 0;thing 1 1 1 0 1;pupil 3;pupil 2;pupil 0;");
        // Lifted: b lays 1 on 0 again. Changed places: b may not lift the 0.
        due("broom n 2, swap", only.broom(0, 0, 1, 2, 0, 1), 6);
        for (int wrong : new int[] {-1, 3, LEAST, MOST}) {
            due("broom(" + wrong + ", ..)", x.broom(wrong, 0, 1, 1, 0, 0), -1);
            due("broom(0, " + wrong + ", ..)", x.broom(0, wrong, 1, 1, 0, 0), -1);
            due("broom(0, 0, " + wrong + ", ..)", x.broom(0, 0, wrong, 1, 0, 0), -1);
        }
        due("broom a, b the same", x.broom(0, 1, 1, 1, 0, 0), -1);
        for (int wrong : new int[] {-1, 5, LEAST, MOST}) {
            due("broom n " + wrong, x.broom(0, 0, 1, wrong, 0, 0), -1);
        }
        for (int wrong : new int[] {-1, 10, LEAST, MOST}) {
            due("broom x " + wrong, x.broom(0, 0, 1, 1, wrong, 0), -1);
        }
        for (int wrong : new int[] {-1, 2, LEAST, MOST}) {
            due("broom what " + wrong, x.broom(0, 0, 1, 1, 0, wrong), -1);
        }
        due("broom x 9", x.broom(0, 0, 1, 4, 9, 0), 0);
    }

    private static void odds() {
        promise = 24;
        Counted x = new Counted();
        long[][] told = {
            {0, 0, 1, 1}, {0, 10, 1, 1}, {0, 3, 1, 1}, {9, 0, 1, 1}, {1, 10, 0, 1}, {9, 10, 0, 1}, {1, 1, 9, 10},
            {1, 2, 4, 5}, {2, 2, 16, 25}, {1, 5, 1, 2}, {3, 5, 1, 8}, {9, 5, 1, 512}, {2, 4, 9, 25}, {3, 6, 8, 125},
            {2, 8, 1, 25}, {9, 9, 1, 1000000000}, {9, 3, 40353607, 1000000000}, {9, 1, 387420489, 1000000000},
            {9, 2, 262144, 1953125}, {2, 7, 9, 100}
        };
        for (long[] row : told) {
            due("odds(" + row[0] + ", " + row[1] + ", 0)", x.odds((int) row[0], (int) row[1], 0), row[2]);
            due("odds(" + row[0] + ", " + row[1] + ", 1)", x.odds((int) row[0], (int) row[1], 1), row[3]);
        }
        for (int wrong : new int[] {-1, 10, LEAST, MOST}) {
            due("odds(" + wrong + ", 0, 0)", x.odds(wrong, 0, 0), -1);
        }
        for (int wrong : new int[] {-1, 11, LEAST, MOST}) {
            due("odds(0, " + wrong + ", 0)", x.odds(0, wrong, 0), -1);
        }
        for (int wrong : new int[] {-1, 2, LEAST, MOST}) {
            due("odds(0, 0, " + wrong + ")", x.odds(0, 0, wrong), -1);
        }
    }

    private static void rate() {
        promise = 25;
        Counted x = small();
        // Effect 1, laid for 4, lifted for 1; one pupil may say it; it is in two layers.
        int[] told = {1, 5, 0, 10, 1, 3};
        for (int kind = 0; kind < told.length; kind++) {
            due("rate(" + kind + ", 1)", x.rate(kind, 1), told[kind]);
        }
        due("rate(2, 2) below 0", x.rate(2, 2), -7);
        due("rate(4, 2) below 0", x.rate(4, 2), -6);
        due("rate(5, 0)", x.rate(5, 0), 3);
        x.copy(0, 0, 1);
        due("rate(5, 0) of one layer more", x.rate(5, 0), 4);
        for (int wrong : new int[] {-1, 6, LEAST, MOST}) {
            refused(x, "rate(" + wrong + ", 0)", () -> x.rate(wrong, 0), -1000000);
        }
        for (int wrong : new int[] {-1, 3, LEAST, MOST}) {
            refused(x, "rate(0, " + wrong + ")", () -> x.rate(0, wrong), -1000000);
        }
        Counted y = Check.school("spell 9 0 9 0;spell 0 0 0 9;pupil 1;pupil 1;pupil 3;");
        due("rate(3, 0)", y.rate(3, 0), 36);
        due("rate(4, 0)", y.rate(4, 0), 12);
        due("rate(4, 1)", y.rate(4, 1), -8);
        due("rate(2, 1)", y.rate(2, 1), -9);
    }

    private static void keepAndBack() {
        promise = 26;
        Counted x = small();
        for (int wrong : new int[] {-1, 2, LEAST, MOST}) {
            refused(x, "keep(" + wrong + ")", () -> x.keep(wrong), -1);
        }
        due("keep(0)", x.keep(0), 0);
        String start = x.looks();
        x.lay(0, 0, 1);
        x.lay(0, 1, 1);
        due("keep(1)", x.keep(1), 8);
        due("now(3) behind keep()", x.now(3), 2);
        promise = 27;
        x.lift(0, 0);
        due("back(1)", x.back(1), 8);
        due("layer(0, 0)", x.layer(0, 0), 1);
        due("now(0)", x.now(0), 8);
        due("now(3) behind back()", x.now(3), 0);
        due("undo() behind back()", x.undo(), -2);
        due("back(0)", x.back(0), 0);
        check.holds("back(0) is as at the start", x.looks().equals(start));
        due("back(1) again", x.back(1), 8);
        due("now(2)", x.now(2), 8);
        x.lift(0, 1);
        due("keep(1) anew", x.keep(1), 9);
        x.lift(0, 0);
        due("back(1) of the new one", x.back(1), 9);
        due("now(2)", x.now(2), 7);
        due("thing(1, 0)", x.thing(1, 0), 0);
        x.saw(0, 1);
        x.type(59, 1);
        x.rate(0, 0);
        due("back(0)", x.back(0), 0);
        due("count(3) is not in an image", x.count(3), 1);
        due("count(4) is not in an image", x.count(4), 1);
        due("trace() is not in an image", x.trace(), 1);
        for (int wrong : new int[] {-1, 2, LEAST, MOST}) {
            refused(x, "back(" + wrong + ")", () -> x.back(wrong), -1);
        }
        Counted y = small();
        y.lay(0, 0, 0);
        refused(y, "back(0) of none", () -> y.back(0), -2);
        refused(y, "back(1) of none", () -> y.back(1), -2);
        due("undo() behind a refused back()", y.undo(), 0);
        y.keep(1);
        refused(y, "back(0) of none", () -> y.back(0), -2);
    }

    private static void count() {
        promise = 28;
        Counted x = small();
        x.saw(0, 0);
        x.type(0, 3);
        int[] counts = {3, 3, 3, 1, 3, 2, 5, 3};
        for (int what = 0; what < 8; what++) {
            due("count(" + what + ")", x.count(what), counts[what]);
        }
        for (int wrong : new int[] {-1, 8, LEAST, MOST}) {
            due("count(" + wrong + ")", x.count(wrong), -1);
        }
        Counted other = Check.school("swap 3;hum 2;copy 6;");
        int[] told = {3, 6, 2};
        for (int what = 5; what < 8; what++) {
            due("count(" + what + ")", other.count(what), told[what - 5]);
        }
        Counted great = Check.school(GREAT);
        int[] most = {5, 4, 3, 0, 0, 0, 9, 5};
        for (int what = 0; what < 8; what++) {
            due("count(" + what + ")", great.count(what), most[what]);
        }
    }

    private static void trace() {
        promise = 29;
        Counted x = small();
        long sum = 0;
        long[] bodies = {1, 11, 101, 1011, 10101, 100001};
        for (int kind = 0; kind < 6; kind++) {
            x.rate(kind, 0);
            sum += bodies[kind];
            due("trace() behind rate(" + kind + ", 0)", x.trace(), sum);
        }
        x.rate(6, 0);
        x.rate(0, 3);
        due("trace() behind what was refused", x.trace(), sum);
        x.lay(0, 0, 0);
        x.keep(0);
        x.undo();
        x.back(0);
        x.school();
        due("trace() goes on", x.trace(), sum);
        for (int i = 0; i < 300; i++) {
            x.school();
        }
        due("trace()", x.trace(), sum);
    }

    private static void constants() {
        promise = 0;
        due("BAD", SpellLayers.BAD, -1);
        due("STATE", SpellLayers.STATE, -2);
        due("FULL", SpellLayers.FULL, -3);
        due("NONE", SpellLayers.NONE, -9);
        due("NO", SpellLayers.NO, -1000000);
    }
}
