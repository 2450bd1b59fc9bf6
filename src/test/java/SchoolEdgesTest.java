/** The edges that the document names in promises 1 to 8: a new object, THE TEXT, what is told. */
public final class SchoolEdgesTest {
    private static final String SMALL = Edges.SMALL, GREAT = Edges.GREAT;
    private static final String SPELL = "spell 0 0 0 0;";
    private static final Edges edges = new Edges("SchoolEdgesTest");

    public static void main(String[] args) {
        newObject();
        type();
        typedBytes();
        clear();
        itemsOfEachKind();
        blanks();
        numbersInTheirBounds();
        onceTooMany();
        wrongTokens();
        whatCannotStandThere();
        everyByte();
        endings();
        everyPrefix();
        readAnew();
        faultChangesNothing();
        spell();
        thing();
        works();
        hums();
        layer();
        pupil();
        edges.end(1, 8);
    }

    private static void newObject() {
        edges.promise(1);
        edges.edge("no SPELLS, no THINGS, nobody", "", "count(0) = 0", "count(1) = 0", "count(2) = 0",
            "spell(0, 0) ! -1", "thing(0, 0) ! -1", "layer(0, 0) ! -1", "pupil(0) ! -1");
        edges.edge("nothing SEEN, THE TEXT is empty", "", "count(3) = 0", "count(4) = 0", "forget() ! 0",
            "clear() ! 0");
        edges.edge("SWAP, COPY (1 at first), HUM (4 at first)", "", "count(5) = 1", "count(6) = 1", "count(7) = 4");
        edges.edge("nothing SPENT, nothing can be UNDONE", "", "now(0) = 0", "now(1) = 0", "now(2) = 0", "now(3) = 0",
            "undo() ! -2");
        edges.edge("IMAGES are gone", "", "back(0) ! -2", "back(1) ! -2", "keep(0) = 0", "back(1) ! -2", "back(0) = 0");
        edges.edge("THE TRACE, 0 at first", "", "trace() ! 0");
        edges.edge("there is no such thing", "", "lay(0, 0, 0) ! -1", "lift(0, 0) ! -1", "swap(0, 0) ! -1",
            "copy(0, 0, 1) ! -1", "cheapest(0, 0, 0, 0) ! -1", "takes(0, 0) ! -1", "broom(0, 0, 1, 0, 0, 0) ! -1",
            "rate(0, 0) ! -1000000");
        edges.edge("the empty row alone", "", "could() ! 1", "under(0) ! -5", "under(2) ! -5", "lifted() ! 0",
            "learn(0, 0) ! 0", "learn(0, 1) ! 0", "learn(1, 0) ! -9", "learn(1, 1) ! -9");
        int left = Counted.MOST_CALLS - Script.of(SMALL).calls();
        edges.edge("at most 512 calls", SMALL, (left - 4) + " x now(2) = 6", "lay(0, 0, 0) = 3", "rate(5, 0) = 4",
            "trace() = 100001", "now(2) = 7");
        Script one = Script.of(SMALL);
        one.ask("lay(0, 1, 0)");
        edges.due("now(2) of a new object beside another one", Script.of("").ask("now(2)"), 0);
        edges.due("now(2) of the other one", one.ask("now(2)"), 7);
    }

    private static void type() {
        edges.promise(2);
        edges.bounds("n (1 .. 8)", "", "type(59, 1)", 1, 1, 8, Edges.BAD);
        edges.edge("how many it has", "", "type(32, 1) = 1", "type(32, 8) = 9", "type(32, 2) = 11", "count(4) = 11");
        edges.edge("300 bytes at most: eight more", "", "36 x do type(0, 8)", "count(4) = 288", "type(0, 4) = 292",
            "type(0, 8) = 300", "type(0, 8) ! -3", "count(4) = 300");
        edges.edge("300 bytes at most: eight too many, seven not", "", "36 x do type(0, 8)", "type(0, 5) = 293",
            "type(0, 8) ! -3", "type(0, 7) = 300");
        edges.edge("300 bytes at most: one more", "", "37 x do type(0, 8)", "type(0, 3) = 299", "type(0, 2) ! -3",
            "type(0, 8) ! -3", "type(0, 1) = 300", "type(0, 1) ! -3", "type(0, 8) ! -3");
        // Eight blanks; seven and a {; four blanks.
        edges.edge("FULL: nothing of it comes to THE TEXT", "", "37 x do type(2314885530818453536, 8)",
            "type(2314885530818453627, 8) ! -3", "type(538976288, 4) = 300", "school() = 0");
        edges.edge("BAD ahead of FULL", "", "37 x do type(0, 8)", "type(0, 4) = 300", "type(0, 0) ! -1",
            "type(0, 9) ! -1", "type(0, -1) ! -1", "type(0, MIN) ! -1", "type(0, MAX) ! -1");
    }

    /** "hum 5;" is typed in pieces of n bytes, with ones or noughts above them. */
    private static void typedBytes() {
        edges.promise(2);
        String text = "hum 5;  ";
        for (int n = 1; n <= 8; n++) {
            for (long above : new long[] {0, -1, Long.MIN_VALUE, 0x3B3B3B3B3B3B3B3BL}) {
                Script script = Script.of("");
                for (int from = 0; from < text.length(); from += n) {
                    int many = Math.min(n, text.length() - from);
                    long v = above;
                    for (int i = 0; i < many; i++) {
                        v = v << 8 | text.charAt(from + i);
                    }
                    script.ask("type(" + v + ", " + many + ")");
                }
                edges.due("school() of pieces of " + n + " bytes below " + above, script.ask("school()"), 1);
                edges.due("count(7) of pieces of " + n + " bytes below " + above, script.ask("count(7)"), 5);
            }
        }
        // The bytes of the least long are 128 and seven noughts; of the greatest 127 and seven times 255.
        edges.edge("v at the ends of long", "", "type(MIN, 8) = 8", "school() = -10", "clear() = 8", "type(MAX, 8) = 8",
            "school() = -10", "clear() = 8", "type(-1, 8) = 8", "school() = -10");
        // Six blanks, a ! and a nought.
        edges.edge("the highest of them first", "", "type(2314885530818453760, 8) = 8", "school() = -16");
    }

    private static void clear() {
        edges.promise(3);
        edges.edge("how many bytes it had: none", "", "clear() ! 0");
        edges.edge("how many bytes it had: one", "", "type(59, 1) = 1", "clear() = 1", "clear() ! 0", "count(4) = 0");
        edges.edge("how many bytes it had: all", "", "37 x do type(0, 8)", "type(0, 4) = 300", "clear() = 300",
            "clear() ! 0", "type(0, 8) = 8");
        edges.edge("THE TEXT is empty, what is told stays", SMALL, "lay(0, 0, 0) = 3", "saw(0, 0) = 1", "write x",
            "clear() = 1", "count(0) = 3", "now(0) = 3", "now(3) = 1", "count(3) = 1", "school() = 0");
        edges.edge("nothing of it is read later", SMALL, "write hum 5", "clear() = 5", "write ;", "school() = -10");
    }

    private static void itemsOfEachKind() {
        edges.promise(4);
        edges.edge("ITEMS (none, too)", SMALL, "school() = 0", "count(0) = 0", "count(1) = 0", "count(2) = 0",
            "count(5) = 1", "count(6) = 1", "count(7) = 4");
        edges.reads("how many ITEMS: each counts", SMALL, 12);
        edges.reads("how many ITEMS: as many as there may be", GREAT, 15);
        edges.reads("how many ITEMS: one", "thing;", 1);
        edges.edge("5 SPELLS at most", GREAT, "count(0) = 5", "spell(4, 0) = 5", "spell(5, 0) ! -1");
        edges.edge("4 THINGS at most", GREAT, "count(1) = 4", "thing(3, 0) = 4", "thing(4, 0) ! -1");
        edges.edge("3 PUPILS at most", GREAT, "count(2) = 3", "pupil(2) = 30", "pupil(3) ! -1");
        edges.edge("LAYERS (5 at most)", GREAT, "thing(0, 0) = 5", "layer(0, 4) = 4", "layer(0, 5) ! -5");
        edges.edge("LAYERS: none is well", GREAT, "thing(1, 0) = 0", "layer(1, 0) ! -5");
        edges.edge("the lowest first", GREAT, "layer(0, 0) = 0", "layer(0, 1) = 1", "layer(0, 3) = 3",
            "layer(0, 4) = 4");
        edges.reads("0 to 5 of them: 0", SPELL + "thing;", 2);
        edges.reads("0 to 5 of them: 4", SPELL + "thing 0 0 0 0;", 2);
        edges.reads("0 to 5 of them: 5", SPELL + "thing 0 0 0 0 0;", 2);
        edges.reads("300 bytes at most", " ".repeat(287) + "spell 0 0 0 0", -10 - 300);
    }

    private static void blanks() {
        edges.promise(4);
        edges.reads("blanks, any number: none", "spell0 1 2 3;thing0 0;pupil1;swap9;copy0;hum1;", 6);
        edges.reads("blanks, any number: one ahead of, between, behind", " spell 0 1 2 3 ; thing 0 0 ; hum 1 ; ", 3);
        edges.reads("blanks, any number: many", "   spell   0   1   2   3   ;   thing   0   0   ;   ", 2);
        edges.reads("blanks, any number: 300 alone", " ".repeat(300), 0);
        edges.reads("blanks, any number: 294 ahead of", " ".repeat(294) + "hum 1;", 1);
        edges.reads("blanks, any number: 294 between", "hum" + " ".repeat(295) + "1;", 1);
        edges.reads("blanks, any number: 294 behind", "hum 1;" + " ".repeat(294), 1);
        edges.fault("needed between two NUMBERS", "spell ^1000;");
        edges.fault("needed between two NUMBERS", "spell 1 0 ^00;");
        edges.fault("needed between two rows of letters", "^thingthing;");
    }

    private static void numbersInTheirBounds() {
        edges.promise(4);
        String[] wells = {"spell 0 0 0 0;", "spell 9 1 9 9;", "pupil 0;", "swap 0;", "swap 9;", "copy 0;", "copy 9;",
            "hum 1;", "hum 5;", "thing;"};
        for (String text : wells) {
            edges.reads("a NUMBER as it may be", text, 1);
        }
        String[] faults = {"spell ^10 0 0 0;", "spell 0 ^2 0 0;", "spell 0 ^9 0 0;", "spell 0 0 ^10 0;",
            "spell 0 0 0 ^10;", "spell ^99 0 0 0;", "spell 0 0 ^99 0;", "spell 0 0 0 ^99;", "swap ^10;", "swap ^99;",
            "copy ^10;", "copy ^99;", "hum ^0;", "hum ^6;", "hum ^9;", "hum ^99;"};
        for (String text : faults) {
            edges.fault("a NUMBER beyond what it may be", text);
        }
        for (int many = 0; many <= 5; many++) {
            String spells = SPELL.repeat(many);
            edges.reads("SPELLS told ahead, bits; 0 is well", spells + "pupil 0;", many + 1);
            edges.reads("SPELLS told ahead, bits: all", spells + "pupil " + ((1 << many) - 1) + ";", many + 1);
            edges.fault("SPELLS told ahead, bits: one not told", spells + "pupil ^" + (1 << many) + ";");
            edges.fault("SPELLS told ahead, bits: 99", spells + "pupil ^99;");
            edges.fault("SPELLS told ahead: one not told", spells + "thing ^" + many + ";");
            if (many > 0) {
                edges.reads("SPELLS told ahead: the last", spells + "thing " + (many - 1) + ";", many + 1);
                edges.fault("SPELLS told ahead: behind a good one", spells + "thing 0 ^" + many + ";");
            }
        }
        edges.fault("SPELLS told ahead: told behind it", "thing ^0;" + SPELL);
        edges.fault("SPELLS told ahead: told behind it", "pupil ^1;" + SPELL);
        edges.fault("SPELLS told ahead: told between", SPELL + "thing 0;pupil 1;thing ^1;" + SPELL);
        edges.reads("SPELLS told ahead: told between", SPELL + "thing 0;pupil 1;" + SPELL + "thing 1;pupil 3;", 6);
    }

    private static void onceTooMany() {
        edges.promise(4);
        edges.reads("5 SPELLS", SPELL.repeat(5), 5);
        edges.fault("a sixth spell", SPELL.repeat(5) + "^" + SPELL);
        edges.fault("a sixth spell, not next to them", SPELL.repeat(5) + "thing;^spell");
        edges.reads("4 THINGS", "thing;".repeat(4), 4);
        edges.fault("a fifth thing", "thing;".repeat(4) + "^thing;");
        edges.reads("3 PUPILS", "pupil 0;".repeat(3), 3);
        edges.fault("a fourth pupil", "pupil 0;".repeat(3) + "^pupil 0;");
        edges.fault("a sixth SPELL of a thing", SPELL + "thing 0 0 0 0 0 ^0;");
        edges.fault("a sixth SPELL of a thing, and not told", SPELL + "thing 0 0 0 0 0 ^1;");
        edges.reads("once each at most", "hum 1;copy 1;swap 1;", 3);
        edges.fault("what is told again that may not", "swap 1;^swap 1;");
        edges.fault("what is told again that may not", "copy 1;^copy 1;");
        edges.fault("what is told again that may not", "hum 1;^hum 1;");
        edges.fault("what is told again that may not, later", "hum 4;swap 1;copy 1;" + SPELL + "thing;^hum 4;");
        edges.fault("what is told again that may not, later", "swap 1;copy 1;hum 4;pupil 0;^swap 1;");
        edges.fault("what is told again that may not, later", "copy 1;hum 4;swap 1;thing;^copy 1;");
        edges.edge("once each at most: in each text", "swap 2;copy 3;hum 1;", "write swap 4;copy 5;hum 2;",
            "school() = 3", "count(5) = 4", "count(6) = 5", "count(7) = 2");
        edges.edge("once each at most: not counting what was not read", "", "write swap 1;copy 1;hum 1;x",
            "school() = -30", "clear() = 21", "write swap 1;copy 1;hum 1;", "school() = 3");
        edges.fault("a fifth NUMBER of a spell", "spell 0 0 0 0 ^0;");
        edges.fault("a second NUMBER", "pupil 0 ^0;");
        edges.fault("a second NUMBER", "swap 0 ^0;");
        edges.fault("a second NUMBER", "copy 0 ^0;");
        edges.fault("a second NUMBER", "hum 1 ^1;");
    }

    private static void wrongTokens() {
        edges.promise(4);
        String[] words = {"spel", "spells", "spelll", "s", "thin", "things", "thong", "pupi", "pupils", "pupal", "swa",
            "swaps", "swop", "cop", "copyy", "cope", "hu", "humm", "ham", "a", "z", "x", "spellspell", "humhum",
            "thingthing", "lay", "lift", "hump", "thump"};
        for (String word : words) {
            edges.fault("a word that is none of these", "^" + word + " 1;");
            edges.fault("a word that is none of these, behind an item", "thing; ^" + word + ";");
            edges.fault("a word that is none of these, where no word can stand", "hum 1 ^" + word + ";");
        }
        for (String word : new String[] {"spell", "thing", "pupil", "swap", "copy", "hum"}) {
            for (int i = 0; i < word.length(); i++) {
                for (int other = -1; other <= 1; other += 2) {
                    String changed = word.substring(0, i) + (char) (word.charAt(i) + other) + word.substring(i + 1);
                    edges.fault("a word that is none of these, by one letter", "^" + changed + " 1;");
                }
            }
        }
        String[] numbers = {"100", "101", "999", "1000", "2147483648", "4294967297", "9223372036854775808",
            "18446744073709551617", "10000000000000000000000000000000000000001"};
        for (String number : numbers) {
            edges.fault("a NUMBER above 99", "swap ^" + number + ";");
            edges.fault("a NUMBER above 99, where none can stand", "^" + number + ";");
        }
        for (String number : new String[] {"00", "01", "09", "000", "010", "099", "0000000001"}) {
            edges.fault("a NUMBER with a 0 ahead of others", "copy ^" + number + ";");
            edges.fault("a NUMBER with a 0 ahead of others, where none can stand", "swap 1 ^" + number + ";");
        }
        for (String wrong : new String[] {"Spell 0 0 0 0;", "-1", "+1", ".", ",", "\u00ff", "\u0080", "\t", "\n"}) {
            edges.fault("of a byte that begins none", "^" + wrong);
            edges.fault("of a byte that begins none, behind an item", "thing;^" + wrong);
            edges.fault("of a byte that begins none, within one", "swap ^" + wrong);
            edges.fault("of a byte that begins none, right behind a word", "thing^" + wrong);
            edges.fault("of a byte that begins none, right behind a NUMBER", "swap 1^" + wrong);
        }
        edges.fault("the first TOKEN that can't stand there, ahead of a wrong one", "hum 1;^5;x 100 01 #");
        edges.fault("of a byte, ahead of what can't stand there", "hum ^# 9;hum 1;hum 1;");
        edges.fault("a NUMBER beyond, ahead of a wrong word", "hum ^6 spel");
        edges.fault("the last of 300 bytes", "hum 1;" + " ".repeat(293) + "^x");
        edges.fault("a word up to the last of 300 bytes", " ".repeat(296) + "^spel");
    }

    private static void whatCannotStandThere() {
        edges.promise(4);
        edges.fault("each ended by ;", "^;");
        edges.fault("each ended by ;", "thing;^;");
        edges.fault("each ended by ;", "^1;");
        edges.fault("each ended by ;", "thing;^0;");
        edges.fault("each ended by ;", "thing ^thing;");
        edges.fault("each ended by ;", "swap 1^copy 1;");
        edges.fault("each ended by ;", "swap 1 ^swap 1;");
        edges.fault("each ended by ;", SPELL + "thing 0 ^pupil 1;");
        edges.fault("E G C L: none of them", "spell^;");
        edges.fault("E G C L: one of them", "spell 0^;");
        edges.fault("E G C L: two of them", "spell 0 0^;");
        edges.fault("E G C L: three of them", "spell 0 0 0 ^;");
        edges.fault("E G C L: a word instead", "spell ^spell");
        edges.fault("E G C L: a word instead", "spell 0 ^hum 1;");
        edges.fault("pupil S: none", "pupil^;");
        edges.fault("swap N: none", "swap ^;");
        edges.fault("copy N: none", "copy^;");
        edges.fault("hum N: none", "hum ^;");
        edges.fault("hum N: a word instead", "hum ^swap 1;");
        edges.fault("thing: a word instead", "thing ^spell 0 0 0 0;");
    }

    /** Each of the 256 bytes alone, behind an item, behind a number, within a word. */
    private static void everyByte() {
        edges.promise(4);
        for (int b = 0; b < 256; b++) {
            String one = Character.toString((char) b);
            boolean isBlank = b == 32;
            boolean isDigit = b >= '0' && b <= '9';
            String name = "byte " + b + ", ";
            edges.reads(name + "blanks (32)", one, isBlank ? 0 : -10);
            edges.reads(name + "behind an item", "hum 1;" + one, isBlank ? 1 : -16);
            edges.reads(name + "ahead of an item", one + "hum 1;", isBlank ? 1 : -10);
            // 1 and one digit more is a number beyond what it may be; all else ends the number.
            edges.reads(name + "behind a NUMBER", "hum 1" + one + ";",
                isBlank ? 1 : isDigit ? -14 : b == ';' ? -16 : -15);
            edges.reads(name + "within a word", "hu" + one + " 1;", b == 'm' ? 1 : -10);
            boolean endsWord = isBlank || b >= '1' && b <= '5';
            int fault = b >= 'a' && b <= 'z' ? -10 : -13;
            edges.reads(name + "behind a word", "hum" + one + (isDigit ? ";" : "1;"), endsWord ? 1 : fault);
        }
    }

    private static void endings() {
        edges.promise(4);
        String[] texts = {"spell", "spell ", "spell 0", "spell 0 0", "spell 0 0 0", "spell 0 0 0 ", "spell 0 0 0 0",
            "spell 0 0 0 0   ", "thing", "thing  ", "pupil", "pupil 0", "swap", "swap 1", "copy", "copy 1", "hum",
            "hum 1", "thing;hum", "thing; hum 1  ", SPELL + "thing 0", SPELL + "thing 0 0 0 0 0",
            "hum 1" + " ".repeat(295), " ".repeat(297) + "hum"};
        for (String text : texts) {
            edges.fault("the text's length, if it ends too early", text + "^");
        }
        edges.edge("the text's length: THE TEXT stays, and goes on", "", "write hum", "school() = -13",
            "school() = -13", "write  2", "school() = -15", "write ;", "school() = 1", "count(7) = 2", "count(4) = 0");
        edges.fault("ends too early, but a wrong TOKEN stands last", "spell 0 ^2");
        edges.fault("ends too early, but a wrong TOKEN stands last", "hum ^100");
        edges.fault("ends too early, but a wrong TOKEN stands last", "hum ^0");
    }

    /** Each beginning of a text that is well: what is due can be told from the place where it is cut. */
    private static void everyPrefix() {
        edges.promise(4);
        String whole = "spell 9 1 0 7;thing 0 0;pupil 1;swap 8;copy 9;hum 5;";
        for (int cut = 0; cut <= whole.length(); cut++) {
            String text = whole.substring(0, cut);
            int word = cut;
            while (word > 0 && Character.isLetter(text.charAt(word - 1))) {
                word--;
            }
            String last = text.substring(word);
            boolean isWord = last.isEmpty() || "spell thing pupil swap copy hum".contains(last)
                && !Character.isLetter(whole.charAt(cut));
            int items = text.length() - text.replace(";", "").length();
            boolean isWhole = text.isEmpty() || text.endsWith(";");
            edges.reads("the first " + cut + " bytes of a text", text,
                isWhole ? items : isWord ? -10 - cut : -10 - word);
        }
    }

    private static void readAnew() {
        edges.promise(4);
        edges.edge("as told (what is not told as at first)", GREAT, "write thing;", "school() = 1", "count(0) = 0",
            "count(1) = 1", "count(2) = 0", "count(5) = 1", "count(6) = 1", "count(7) = 4", "thing(0, 0) = 0",
            "spell(0, 0) ! -1", "pupil(0) ! -1", "thing(1, 0) ! -1", "now(2) = 0");
        edges.edge("as told: none at all", GREAT, "school() = 0", "count(1) = 0", "now(1) = 0", "now(2) = 0",
            "could() = 1");
        edges.edge("as told: with fewer pupils", GREAT, "write " + SPELL + "pupil 0;pupil 1;thing;", "school() = 4",
            "pupil(0) = 0", "pupil(1) = 1", "pupil(2) ! -1", "rate(4, 0) = 1");
        edges.edge("nothing SPENT", SMALL, "lay(0, 0, 1) = 4", "write " + SMALL, "school() = 12", "now(0) = 0",
            "thing(0, 0) = 2");
        edges.edge("nothing SEEN", SMALL, "6 x do saw(0, 0)", "write " + SMALL, "school() = 12", "count(3) = 0",
            "could() = 40", "saw(0, 0) = 1");
        edges.edge("IMAGES are gone", SMALL, "keep(0) = 0", "keep(1) = 0", "write " + SMALL, "school() = 12",
            "back(0) ! -2", "back(1) ! -2");
        edges.edge("nothing can be UNDONE", SMALL, "15 x do swap(0, 0)", "write " + SMALL, "school() = 12",
            "now(3) = 0", "undo() ! -2", "lay(0, 0, 0) = 3", "now(3) = 1", "undo() = 0", "undo() ! -2");
        edges.edge("THE TRACE goes on", SMALL, "rate(5, 0) = 3", "write " + SMALL, "school() = 12", "trace() = 100001",
            "rate(0, 0) = 0", "trace() = 100002");
        String bare = "write spell 5 0 0 0;thing;pupil 0;";
        edges.edge("what is not told as at first: behind a third text", GREAT, "school() = 0", bare, "school() = 3",
            "count(0) = 1", "count(1) = 1", "count(2) = 1", "count(5) = 1", "count(6) = 1", "count(7) = 4",
            "now(2) = 0", "now(1) = 0", "rate(4, 0) = 5", "rate(5, 0) = 5", "spell(1, 0) ! -1");
        edges.edge("what is not told as at first: behind a fault", "", "write " + GREAT + "x", "do school()",
            "do clear()", bare, "school() = 3", "count(0) = 1", "count(1) = 1", "count(2) = 1", "count(5) = 1",
            "count(6) = 1", "count(7) = 4", "now(2) = 0", "now(1) = 0", "rate(4, 0) = 5", "rate(5, 0) = 5",
            "spell(1, 0) ! -1");
        edges.edge("THE TEXT is empty then", SMALL, "count(4) = 0", "clear() ! 0", "school() = 0");
    }

    private static void faultChangesNothing() {
        edges.promise(4);
        edges.edge("nothing changes (THE TEXT stays, too)", SMALL, "rate(1, 0) = 3", "lay(0, 0, 0) = 3", "keep(0) = 3",
            "lift(0, 2) = 0", "keep(1) = 5", "swap(0, 0) = 0", "saw(1, 2) = 1",
            "write spell 9 0 9 9;spell 8 0 8 8;thing 1;pupil 2;swap 0;copy 0;hum 1;thing", "school() ! -79",
            "count(4) = 69", "count(0) = 3", "count(1) = 3", "count(3) = 1", "count(5) = 2", "count(6) = 5",
            "count(7) = 3", "now(0) = 7", "now(3) = 3", "undo() = 2", "back(0) = 3", "back(1) = 5", "trace() = 11",
            "write ;", "school() = 8", "count(0) = 2", "layer(0, 0) = 1", "thing(1, 0) = 0", "spell(0, 2) = 9",
            "count(5) = 0", "back(0) ! -2");
    }

    private static void spell() {
        edges.promise(5);
        edges.bounds("of a SPELL", SMALL, "spell(0, 0)", 0, 0, 2, Edges.BAD);
        edges.bounds("of a SPELL of five", GREAT, "spell(0, 0)", 0, 0, 4, Edges.BAD);
        edges.bounds("0 EFFECT, 1 GLASS, 2 LAY, 3 LIFT", SMALL, "spell(0, 0)", 1, 0, 3, Edges.BAD);
        edges.edge("as great as may be", "spell 9 1 9 9;", "spell(0, 0) ! 9", "spell(0, 1) ! 1", "spell(0, 2) ! 9",
            "spell(0, 3) ! 9", "spell(1, 0) ! -1");
        edges.edge("as small as may be", "spell 0 0 0 0;", "spell(0, 0) = 0", "spell(0, 1) = 0", "spell(0, 2) = 0",
            "spell(0, 3) = 0");
        edges.edge("each of its own", "spell 1 1 3 4;spell 5 0 7 8;", "spell(0, 0) = 1", "spell(0, 1) = 1",
            "spell(0, 2) = 3", "spell(0, 3) = 4", "spell(1, 0) = 5", "spell(1, 1) = 0", "spell(1, 2) = 7",
            "spell(1, 3) = 8");
    }

    private static void thing() {
        edges.promise(6);
        edges.bounds("of a THING", SMALL, "thing(0, 0)", 0, 0, 2, Edges.BAD);
        edges.bounds("of a THING of four", GREAT, "thing(0, 0)", 0, 0, 3, Edges.BAD);
        edges.bounds("0 how many LAYERS, 1 WORKS, 2 whether it HUMS", SMALL, "thing(0, 0)", 1, 0, 2, Edges.BAD);
        edges.edge("0 how many LAYERS", SPELL + "thing;thing 0;thing 0 0 0 0;thing 0 0 0 0 0;", "thing(0, 0) ! 0",
            "thing(1, 0) ! 1", "thing(2, 0) ! 4", "thing(3, 0) ! 5");
    }

    private static void works() {
        edges.promise(6);
        String three = "spell 0 1 0 0;spell 1 0 0 0;spell 9 1 0 0;";
        edges.edge("WORKS: none: 0", three + "thing;", "thing(0, 1) ! 0");
        edges.edge("WORKS: EFFECTS 0 and 9", three + "thing 0;thing 2;", "thing(0, 1) = 1", "thing(1, 1) = 512");
        edges.edge("WORKS: as long as the one above is GLASS", three + "thing 2 1 0;thing 2 0 1;thing 1 0 2;thing 1 1;",
            "thing(0, 1) = 3", "thing(1, 1) = 2", "thing(2, 1) = 515", "thing(3, 1) = 2");
        edges.edge("WORKS: GLASS down to the lowest", three + "thing 2;thing 2 0;thing 2 2 2 2 0;thing 1 0 0 0 0;",
            "thing(0, 1) = 512", "thing(1, 1) = 513", "thing(2, 1) = 513", "thing(3, 1) = 3");
        edges.edge("WORKS: five of five", GREAT, "thing(0, 1) = 992", "thing(1, 1) = 0", "thing(2, 1) = 512",
            "thing(3, 1) = 256");
        edges.edge("WORKS: two SPELLS of one EFFECT", "spell 3 1 0 0;spell 3 0 0 0;thing 1 0;thing 0 0;",
            "thing(0, 1) = 8", "thing(1, 1) = 8");
    }

    private static void hums() {
        edges.promise(6);
        for (int hum = 1; hum <= 5; hum++) {
            String school = "hum " + hum + ";" + SPELL + "thing;pupil 1;";
            String[] rows = new String[12];
            for (int layers = 0; layers <= 5; layers++) {
                rows[2 * layers] = "thing(0, 2) = " + (layers >= hum ? 1 : 0);
                rows[2 * layers + 1] = layers < 5 ? "lay(0, 0, 0) = 0" : "lay(0, 0, 0) ! -3";
            }
            edges.edge("HUMS with HUM (" + hum + ") LAYERS or more", school, rows);
        }
        edges.edge("HUM 4 at first", SPELL + "thing 0 0 0;thing 0 0 0 0;", "thing(0, 2) ! 0", "thing(1, 2) ! 1");
    }

    private static void layer() {
        edges.promise(7);
        edges.bounds("of a THING", SMALL, "layer(0, 0)", 0, 0, 2, Edges.BAD);
        edges.bounds("of a THING of four", GREAT, "layer(0, 0)", 0, 0, 3, Edges.BAD);
        edges.edge("d below 0: BAD", SMALL, "layer(0, -1) ! -1", "layer(0, -2) ! -1", "layer(0, MIN) ! -1",
            "layer(1, -1) ! -1");
        edges.edge("0 the uppermost", GREAT, "layer(0, 0) ! 0", "layer(0, 1) ! 1", "layer(0, 2) ! 2", "layer(0, 3) ! 3",
            "layer(0, 4) ! 4", "layer(0, 5) ! -5");
        edges.edge("-5: not so many", SMALL, "layer(0, 1) = 1", "layer(0, 2) ! -5", "layer(1, 0) ! -5",
            "layer(2, 3) = 2", "layer(2, 4) ! -5", "layer(2, 5) ! -5", "layer(2, 6) ! -5", "layer(2, 32) ! -5",
            "layer(2, MAX) ! -5");
    }

    private static void pupil() {
        edges.promise(8);
        edges.bounds("of a PUPIL", SMALL, "pupil(0)", 0, 0, 2, Edges.BAD);
        edges.edge("0 is well, all bits are", GREAT + "", "pupil(0) ! 31", "pupil(1) ! 1", "pupil(2) ! 30");
        edges.edge("of one PUPIL", "pupil 0;", "pupil(0) ! 0", "pupil(1) ! -1", "pupil(2) ! -1");
        edges.edge("of two PUPILS", SPELL + "pupil 1;pupil 0;", "pupil(0) ! 1", "pupil(1) ! 0", "pupil(2) ! -1");
    }
}
