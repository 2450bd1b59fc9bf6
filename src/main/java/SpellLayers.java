import java.util.Arrays;

/** Things under layers of spells: ../shared/DOC.md says what every method answers. */
public final class SpellLayers {
    public static final int BAD = -1, STATE = -2, FULL = -3, NONE = -9;
    public static final int NO = -1000000;

    private static final int ABSENT = -5;
    private static final int MOST_SPELLS = 5, MOST_THINGS = 4, MOST_PUPILS = 3, MOST_LAYERS = 5;
    private static final int MOST_IMAGES = 2, MOST_KNOWN = 12, MOST_TURNS = 4, MOST_WORDS_OF_ODDS = 9;
    private static final int EFFECTS = 10, EFFECT_SETS = 1024;

    // The numbers of words; below LIFT a word lays the spell of its own number.
    private static final int LIFT = 5, SWAP = 6, NOTHING = 7;

    private final Reader reader;
    private final Shelf shelf;
    private final Search search;
    private final Hat hat;
    private final Kinds kinds;
    // A text is read into the draft, which becomes what is told only if all of it is well.
    private School told;
    private School draft;

    public SpellLayers() {
        reader = new Reader();
        shelf = new Shelf();
        search = new Search();
        hat = new Hat();
        kinds = new Kinds();
        told = new School();
        draft = new School();
    }

    // ---- the school

    public int type(long v, int n) {
        if (n < 1 || n > 8) {
            return BAD;
        }
        if (!reader.hasRoomFor(n)) {
            return FULL;
        }
        for (int i = n - 1; i >= 0; i--) {
            reader.add((int) (v >>> (8 * i)) & 255);
        }
        return reader.length();
    }

    public int clear() {
        int length = reader.length();
        reader.empty();
        return length;
    }

    public int school() {
        int items = reader.read(draft);
        if (items < 0) {
            return items;
        }
        School fresh = draft;
        draft = told;
        told = fresh;
        shelf.startAs(told);
        hat.seeNothing();
        reader.empty();
        return items;
    }

    public int spell(int s, int what) {
        if (!told.isSpell(s)) {
            return BAD;
        }
        switch (what) {
            case 0: return told.effectOf(s);
            case 1: return told.isGlass(s) ? 1 : 0;
            case 2: return told.layCost(s);
            case 3: return told.liftCost(s);
            default: return BAD;
        }
    }

    public int thing(int t, int what) {
        if (!told.isThing(t)) {
            return BAD;
        }
        int row = shelf.rowOf(t);
        switch (what) {
            case 0: return Row.depth(row);
            case 1: return told.worksOf(row);
            case 2: return told.isHumming(row) ? 1 : 0;
            default: return BAD;
        }
    }

    public int layer(int t, int d) {
        if (!told.isThing(t) || d < 0) {
            return BAD;
        }
        return Row.fromAbove(shelf.rowOf(t), d);
    }

    public int pupil(int p) {
        return told.isPupil(p) ? told.spellsOfPupil(p) : BAD;
    }

    // ---- words

    public int lay(int p, int t, int s) {
        if (!told.isPupil(p) || !told.isThing(t) || !told.isSpell(s)) {
            return BAD;
        }
        if (!told.maySay(1 << p, s)) {
            return STATE;
        }
        int row = shelf.rowOf(t);
        if (Row.isFull(row)) {
            return FULL;
        }
        int cost = told.layCost(s);
        shelf.change(t, Row.with(row, s), cost);
        return cost;
    }

    public int lift(int p, int t) {
        if (!told.isPupil(p) || !told.isThing(t)) {
            return BAD;
        }
        int row = shelf.rowOf(t);
        int next = told.after(row, 1 << p, LIFT);
        if (next < 0) {
            return STATE;
        }
        shelf.change(t, next, told.costOf(row, LIFT));
        return Row.top(row);
    }

    public int swap(int p, int t) {
        if (!told.isPupil(p) || !told.isThing(t)) {
            return BAD;
        }
        int row = shelf.rowOf(t);
        int next = told.after(row, 1 << p, SWAP);
        if (next < 0) {
            return STATE;
        }
        shelf.change(t, next, told.costOf(row, SWAP));
        return Row.top(next);
    }

    public int copy(int p, int from, int to) {
        if (!told.isPupil(p) || !told.isThing(from) || !told.isThing(to) || from == to) {
            return BAD;
        }
        int s = Row.top(shelf.rowOf(from));
        if (s < 0 || !told.maySay(1 << p, s)) {
            return STATE;
        }
        int row = shelf.rowOf(to);
        if (Row.isFull(row)) {
            return FULL;
        }
        shelf.change(to, Row.with(row, s), told.costOfCopy());
        return s;
    }

    public int undo() {
        return shelf.takeBack() ? shelf.known() : STATE;
    }

    public int now(int what) {
        switch (what) {
            case 0: return shelf.spent();
            case 1: return shelf.humming(told);
            case 2: return shelf.layers();
            case 3: return shelf.known();
            default: return BAD;
        }
    }

    // ---- the cheapest

    public int cheapest(int t, int effects, int pupils, int what) {
        if (!told.isThing(t) || !isEffectSet(effects) || !told.isPupilSet(pupils) || !isYesOrNo(what)) {
            return BAD;
        }
        int row = shelf.rowOf(t);
        // Without a way the search would go through every row there is.
        if (!told.hasWay(row, effects, told.spellsOfSet(pupils))) {
            return NONE;
        }
        int label = search.nearest(told, row, effects, pupils);
        if (label == Search.FAR) {
            return NONE;
        }
        return what == 0 ? Search.costOf(label) : Search.firstOf(label);
    }

    public int takes(int t, int effects) {
        if (!told.isThing(t) || !isEffectSet(effects)) {
            return BAD;
        }
        int row = shelf.rowOf(t);
        int sets = 1 << told.pupils();
        for (int size = 0; size <= MOST_PUPILS; size++) {
            for (int set = 0; set < sets; set++) {
                if (Integer.bitCount(set) == size && told.hasWay(row, effects, told.spellsOfSet(set))) {
                    return set;
                }
            }
        }
        return NONE;
    }

    public int learn(int effects, int what) {
        if (!isEffectSet(effects) || !isYesOrNo(what)) {
            return BAD;
        }
        int set = told.fewestFor(effects);
        if (set < 0) {
            return NONE;
        }
        return what == 0 ? Integer.bitCount(set) : set;
    }

    // ---- the hat

    public int saw(int lifted, int effects) {
        if (lifted < 0 || lifted > Hat.MOST_LAYERS_OF_HAT || !isEffectSet(effects)) {
            return BAD;
        }
        return hat.see(lifted, effects) ? hat.seen() : FULL;
    }

    public int forget() {
        int seen = hat.seen();
        hat.seeNothing();
        return seen;
    }

    public int could() {
        return hat.possible(told);
    }

    public int under(int d) {
        if (d < 0 || d >= Hat.MOST_LAYERS_OF_HAT) {
            return BAD;
        }
        return hat.spellAt(told, d);
    }

    public int lifted() {
        return hat.bestToLift(told);
    }

    // ---- a broom, chance

    public int broom(int t, int a, int b, int n, int x, int what) {
        if (!told.isThing(t) || !told.isPupil(a) || !told.isPupil(b) || a == b) {
            return BAD;
        }
        if (n < 0 || n > MOST_TURNS || x < 0 || x >= EFFECTS || !isYesOrNo(what)) {
            return BAD;
        }
        int row = shelf.rowOf(t);
        if (what == 0) {
            return Broom.isWon(told, row, a, b, x, n, true) ? 1 : 0;
        }
        return Broom.firstWord(told, row, a, b, x, n);
    }

    public long odds(int k, int p, int what) {
        if (k < 0 || k > MOST_WORDS_OF_ODDS || p < 0 || p > 10 || !isYesOrNo(what)) {
            return BAD;
        }
        int upper = 10 - p;
        int lower = 10;
        for (int d = 10; d > 1; d--) {
            if (upper % d == 0 && lower % d == 0) {
                upper /= d;
                lower /= d;
            }
        }
        // Powers of numbers that share no divisor share none.
        return power(what == 0 ? upper : lower, k);
    }

    // ---- kinds, images

    public int rate(int kind, int s) {
        if (kind < 0 || kind >= Kinds.MANY || !told.isSpell(s)) {
            return NO;
        }
        return kinds.rating(kind, told, shelf, s);
    }

    public int keep(int image) {
        if (image < 0 || image >= MOST_IMAGES) {
            return BAD;
        }
        shelf.keepImage(image);
        return shelf.spent();
    }

    public int back(int image) {
        if (image < 0 || image >= MOST_IMAGES) {
            return BAD;
        }
        return shelf.becomeImage(image) ? shelf.spent() : STATE;
    }

    public int count(int what) {
        switch (what) {
            case 0: return told.spells();
            case 1: return told.things();
            case 2: return told.pupils();
            case 3: return hat.seen();
            case 4: return reader.length();
            case 5: return told.costOfSwap();
            case 6: return told.costOfCopy();
            case 7: return told.humsFrom();
            default: return BAD;
        }
    }

    public long trace() {
        return kinds.traced();
    }

    // ---- small helps

    private static boolean isEffectSet(int effects) {
        return effects >= 0 && effects < EFFECT_SETS;
    }

    private static boolean isYesOrNo(int what) {
        return what == 0 || what == 1;
    }

    private static long power(int base, int k) {
        long product = 1;
        for (int i = 0; i < k; i++) {
            product *= base;
        }
        return product;
    }

    private static int at(int[] cells, int i) {
        return i >= 0 && i < cells.length ? cells[i] : 0;
    }

    private static void put(int[] cells, int i, int value) {
        if (i >= 0 && i < cells.length) {
            cells[i] = value;
        }
    }

    /** A row of up to five spells as one number: 0 is the empty row, s laid on r is 5 r + s + 1. */
    private static final class Row {
        static final int ALL = 3906;
        private static final int FIRST_FULL = 781;

        static boolean isFull(int row) {
            return row >= FIRST_FULL;
        }

        static int with(int row, int s) {
            return row * MOST_SPELLS + s + 1;
        }

        static int top(int row) {
            return row > 0 ? (row - 1) % MOST_SPELLS : ABSENT;
        }

        static int below(int row) {
            return row > 0 ? (row - 1) / MOST_SPELLS : 0;
        }

        static int without(int row, int layers) {
            int rest = row;
            for (int i = 0; i < layers && rest > 0; i++) {
                rest = below(rest);
            }
            return rest;
        }

        static int fromAbove(int row, int d) {
            return top(without(row, d));
        }

        static int swapped(int row) {
            int second = below(row);
            return with(with(below(second), top(row)), top(second));
        }

        static int depth(int row) {
            int depth = 0;
            for (int rest = row; rest > 0 && depth < MOST_LAYERS; rest = below(rest)) {
                depth++;
            }
            return depth;
        }
    }

    /** What a text tells: spells, things as they are at first, pupils, costs. */
    private static final class School {
        private final int[] effect = new int[MOST_SPELLS];
        private final int[] glass = new int[MOST_SPELLS];
        private final int[] layCosts = new int[MOST_SPELLS];
        private final int[] liftCosts = new int[MOST_SPELLS];
        private final int[] firstRows = new int[MOST_THINGS];
        private final int[] pupilSpells = new int[MOST_PUPILS];
        private int spells;
        private int things;
        private int pupils;
        private int swapCost = 1;
        private int copyCost = 1;
        private int humDepth = 4;

        void beNew() {
            spells = 0;
            things = 0;
            pupils = 0;
            swapCost = 1;
            copyCost = 1;
            humDepth = 4;
            Arrays.fill(firstRows, 0);
        }

        void addSpell(int itsEffect, int itsGlass, int toLay, int toLift) {
            put(effect, spells, itsEffect);
            put(glass, spells, itsGlass);
            put(layCosts, spells, toLay);
            put(liftCosts, spells, toLift);
            spells++;
        }

        void addThing(int row) {
            put(firstRows, things, row);
            things++;
        }

        void addPupil(int set) {
            put(pupilSpells, pupils, set);
            pupils++;
        }

        void setSwapCost(int cost) {
            swapCost = cost;
        }

        void setCopyCost(int cost) {
            copyCost = cost;
        }

        void setHumDepth(int depth) {
            humDepth = depth;
        }

        int spells() {
            return spells;
        }

        int things() {
            return things;
        }

        int pupils() {
            return pupils;
        }

        int costOfSwap() {
            return swapCost;
        }

        int costOfCopy() {
            return copyCost;
        }

        int humsFrom() {
            return humDepth;
        }

        boolean isSpell(int s) {
            return s >= 0 && s < spells;
        }

        boolean isThing(int t) {
            return t >= 0 && t < things;
        }

        boolean isPupil(int p) {
            return p >= 0 && p < pupils;
        }

        boolean isPupilSet(int set) {
            return set >= 0 && set < 1 << pupils;
        }

        int effectOf(int s) {
            return at(effect, s);
        }

        boolean isGlass(int s) {
            return at(glass, s) == 1;
        }

        int layCost(int s) {
            return at(layCosts, s);
        }

        int liftCost(int s) {
            return at(liftCosts, s);
        }

        int firstRow(int t) {
            return at(firstRows, t);
        }

        int spellsOfPupil(int p) {
            return at(pupilSpells, p);
        }

        int spellsOfSet(int set) {
            int all = 0;
            for (int p = 0; p < pupils; p++) {
                if ((set >> p & 1) == 1) {
                    all |= spellsOfPupil(p);
                }
            }
            return all;
        }

        int sayersOf(int s) {
            int sayers = 0;
            for (int p = 0; p < pupils; p++) {
                sayers += spellsOfPupil(p) >> s & 1;
            }
            return sayers;
        }

        boolean maySay(int set, int s) {
            return mayOneSay(set, 1 << s);
        }

        /** Whether one pupil of the set may say all these spells. */
        boolean mayOneSay(int set, int wanted) {
            for (int p = 0; p < pupils; p++) {
                if ((set >> p & 1) == 1 && (at(pupilSpells, p) & wanted) == wanted) {
                    return true;
                }
            }
            return false;
        }

        boolean isHumming(int row) {
            return Row.depth(row) >= humDepth;
        }

        /** Whether each spell of the row is one of those told. */
        boolean knows(int row) {
            int rest = row;
            for (int d = 0; d < MOST_LAYERS && rest > 0; d++) {
                if (!isSpell(Row.top(rest))) {
                    return false;
                }
                rest = Row.below(rest);
            }
            return true;
        }

        int worksOf(int row) {
            int works = 0;
            int rest = row;
            for (int d = 0; d < MOST_LAYERS && rest > 0; d++) {
                int s = Row.top(rest);
                works |= 1 << at(effect, s);
                if (at(glass, s) == 0) {
                    return works;
                }
                rest = Row.below(rest);
            }
            return works;
        }

        /** The row behind a word of one of these pupils; -1: none of them may say it there. */
        int after(int row, int set, int word) {
            if (word < LIFT) {
                boolean can = isSpell(word) && !Row.isFull(row) && maySay(set, word);
                return can ? Row.with(row, word) : -1;
            }
            if (word == LIFT) {
                return row > 0 && maySay(set, Row.top(row)) ? Row.below(row) : -1;
            }
            if (word == SWAP) {
                int second = Row.below(row);
                boolean can = second > 0 && mayOneSay(set, 1 << Row.top(row) | 1 << Row.top(second));
                return can ? Row.swapped(row) : -1;
            }
            return row;
        }

        int costOf(int row, int word) {
            if (word < LIFT) {
                return layCost(word);
            }
            if (word == LIFT) {
                return liftCost(Row.top(row));
            }
            return word == SWAP ? swapCost : 0;
        }

        /**
         * Whether those who may say these spells can make the row work just so. What they may not say
         * stays, with all below it; above it they can lay any row of theirs, and one where each spell
         * is laid once and seen is enough.
         */
        boolean hasWay(int row, int effects, int sayable) {
            int base = row;
            for (int d = 0; d < MOST_LAYERS && base > 0 && (sayable >> Row.top(base) & 1) == 1; d++) {
                base = Row.below(base);
            }
            int room = MOST_LAYERS - Row.depth(base);
            for (int set = 0; set < 1 << spells; set++) {
                boolean fits = (set & ~sayable) == 0 && Integer.bitCount(set) <= room;
                if (fits && worksOnBase(set, base) == effects) {
                    return true;
                }
            }
            return false;
        }

        /** The fewest spells, the least set of these, that make an empty thing work just so; -1: none. */
        int fewestFor(int effects) {
            for (int size = 0; size <= spells; size++) {
                for (int set = 0; set < 1 << spells; set++) {
                    if (Integer.bitCount(set) == size && worksOnBase(set, 0) == effects) {
                        return set;
                    }
                }
            }
            return -1;
        }

        /** What these spells, each once, work over a base where all are seen; -1: not all can be. */
        private int worksOnBase(int set, int base) {
            int works = 0;
            int walls = 0;
            for (int s = 0; s < spells; s++) {
                if ((set >> s & 1) == 1) {
                    works |= 1 << effectOf(s);
                    walls += isGlass(s) ? 0 : 1;
                }
            }
            // The one that is not glass lies lowest, and hides the base.
            if (walls > 1) {
                return -1;
            }
            return walls == 1 ? works : works | worksOf(base);
        }
    }

    /** The text, and how it is read: token by token, numbers gathered until a ; ends their item. */
    private static final class Reader {
        private static final int MOST_BYTES = 300, MOST_NUMBER = 99;
        private static final int WRONG = 0, OVER = 1, CLOSE = 2, NUMBER = 3;
        private static final int SPELL_WORD = 4, THING_WORD = 5, PUPIL_WORD = 6;
        private static final int SWAP_WORD = 7, COPY_WORD = 8, HUM_WORD = 9;
        private static final int NO_ITEM = 0, NUMBERS_OF_SPELL = 4;

        private final int[] bytes = new int[MOST_BYTES];
        private int length;
        private int place;
        // The token that was read last: its sort, its first byte's place, a number's value.
        private int sort;
        private int start;
        private int value;
        // The item that is open: its word, its numbers so far.
        private int item;
        private final int[] numbers = new int[MOST_LAYERS];
        private int many;
        private int items;
        private int wordsTold;

        int length() {
            return length;
        }

        void empty() {
            length = 0;
        }

        boolean hasRoomFor(int n) {
            return n <= MOST_BYTES - length;
        }

        void add(int b) {
            if (length < MOST_BYTES) {
                put(bytes, length, b);
                length++;
            }
        }

        /** Reads all into the draft: how many items, or -10 less the fault. */
        int read(School draft) {
            draft.beNew();
            place = 0;
            item = NO_ITEM;
            items = 0;
            wordsTold = 0;
            // Each token takes a byte or more, but for the one that says that the text is over.
            for (int i = 0; i <= MOST_BYTES; i++) {
                readToken();
                if (sort == OVER && item == NO_ITEM) {
                    return items;
                }
                if (!accepts(draft)) {
                    return -10 - start;
                }
            }
            return -10 - length;
        }

        private boolean accepts(School draft) {
            switch (sort) {
                case WRONG:
                case OVER: return false;
                case CLOSE: return closesItem(draft);
                case NUMBER: return addsNumber(draft);
                default: return opensItem(draft);
            }
        }

        private boolean opensItem(School draft) {
            if (item != NO_ITEM || !hasPlaceForItem(draft)) {
                return false;
            }
            item = sort;
            many = 0;
            return true;
        }

        private boolean hasPlaceForItem(School draft) {
            switch (sort) {
                case SPELL_WORD: return draft.spells() < MOST_SPELLS;
                case THING_WORD: return draft.things() < MOST_THINGS;
                case PUPIL_WORD: return draft.pupils() < MOST_PUPILS;
                default: return (wordsTold >> sort & 1) == 0;
            }
        }

        private boolean addsNumber(School draft) {
            if (!canBeNext(draft)) {
                return false;
            }
            put(numbers, many, value);
            many++;
            return true;
        }

        private boolean canBeNext(School draft) {
            switch (item) {
                case SPELL_WORD: return many < NUMBERS_OF_SPELL && value <= (many == 1 ? 1 : 9);
                case THING_WORD: return many < MOST_LAYERS && draft.isSpell(value);
                case PUPIL_WORD: return many < 1 && value < 1 << draft.spells();
                case SWAP_WORD:
                case COPY_WORD: return many < 1 && value <= 9;
                case HUM_WORD: return many < 1 && value >= 1 && value <= MOST_LAYERS;
                default: return false;
            }
        }

        private boolean closesItem(School draft) {
            boolean isWhole = item == THING_WORD || many == (item == SPELL_WORD ? NUMBERS_OF_SPELL : 1);
            if (item == NO_ITEM || !isWhole) {
                return false;
            }
            tell(draft);
            item = NO_ITEM;
            items++;
            return true;
        }

        private void tell(School draft) {
            int first = at(numbers, 0);
            switch (item) {
                case SPELL_WORD: draft.addSpell(first, at(numbers, 1), at(numbers, 2), at(numbers, 3)); break;
                case THING_WORD: draft.addThing(gatheredRow()); break;
                case PUPIL_WORD: draft.addPupil(first); break;
                case SWAP_WORD: draft.setSwapCost(first); break;
                case COPY_WORD: draft.setCopyCost(first); break;
                default: draft.setHumDepth(first); break;
            }
            wordsTold |= 1 << item;
        }

        private int gatheredRow() {
            int row = 0;
            for (int i = 0; i < many; i++) {
                row = Row.with(row, at(numbers, i));
            }
            return row;
        }

        private void readToken() {
            while (place < length && at(bytes, place) == ' ') {
                place++;
            }
            start = place;
            if (place >= length) {
                sort = OVER;
                return;
            }
            int b = at(bytes, place);
            if (isDigit(b)) {
                readDigits();
            } else if (isLetter(b)) {
                readLetters();
            } else {
                sort = b == ';' ? CLOSE : WRONG;
                place++;
            }
        }

        private void readDigits() {
            value = 0;
            while (place < length && isDigit(at(bytes, place))) {
                // Held just beyond the limit, so that no row of digits wraps around.
                value = Math.min(value * 10 + at(bytes, place) - '0', MOST_NUMBER + 1);
                place++;
            }
            boolean zeroAhead = at(bytes, start) == '0' && place > start + 1;
            sort = value > MOST_NUMBER || zeroAhead ? WRONG : NUMBER;
        }

        private void readLetters() {
            while (place < length && isLetter(at(bytes, place))) {
                place++;
            }
            if (isWord("spell")) {
                sort = SPELL_WORD;
            } else if (isWord("thing")) {
                sort = THING_WORD;
            } else if (isWord("pupil")) {
                sort = PUPIL_WORD;
            } else if (isWord("swap")) {
                sort = SWAP_WORD;
            } else if (isWord("copy")) {
                sort = COPY_WORD;
            } else {
                sort = isWord("hum") ? HUM_WORD : WRONG;
            }
        }

        private boolean isWord(String word) {
            if (place - start != word.length()) {
                return false;
            }
            for (int i = 0; i < word.length(); i++) {
                if (at(bytes, start + i) != word.charAt(i)) {
                    return false;
                }
            }
            return true;
        }

        private static boolean isDigit(int b) {
            return b >= '0' && b <= '9';
        }

        private static boolean isLetter(int b) {
            return b >= 'a' && b <= 'z';
        }
    }

    /** The things as they are now, what is spent, the words that can be undone, the images. */
    private static final class Shelf {
        private final int[] rows = new int[MOST_THINGS];
        private int spent;
        private final int[] changedThing = new int[MOST_KNOWN];
        private final int[] rowAhead = new int[MOST_KNOWN];
        private final int[] spentAhead = new int[MOST_KNOWN];
        private int known;
        private int next;
        private final int[] imageRows = new int[MOST_IMAGES * MOST_THINGS];
        private final int[] imageSpent = new int[MOST_IMAGES];
        private int imagesKept;

        void startAs(School school) {
            for (int t = 0; t < MOST_THINGS; t++) {
                put(rows, t, school.firstRow(t));
            }
            spent = 0;
            known = 0;
            imagesKept = 0;
        }

        int rowOf(int t) {
            return at(rows, t);
        }

        int spent() {
            return spent;
        }

        int known() {
            return known;
        }

        void change(int t, int row, int cost) {
            put(changedThing, next, t);
            put(rowAhead, next, rowOf(t));
            put(spentAhead, next, spent);
            next = (next + 1) % MOST_KNOWN;
            known = Math.min(known + 1, MOST_KNOWN);
            put(rows, t, row);
            spent += cost;
        }

        boolean takeBack() {
            if (known == 0) {
                return false;
            }
            known--;
            next = (next + MOST_KNOWN - 1) % MOST_KNOWN;
            put(rows, at(changedThing, next), at(rowAhead, next));
            spent = at(spentAhead, next);
            return true;
        }

        int humming(School school) {
            int set = 0;
            for (int t = 0; t < school.things(); t++) {
                if (school.isHumming(rowOf(t))) {
                    set |= 1 << t;
                }
            }
            return set;
        }

        int layers() {
            int sum = 0;
            for (int t = 0; t < MOST_THINGS; t++) {
                sum += Row.depth(rowOf(t));
            }
            return sum;
        }

        int layersWith(int s) {
            int sum = 0;
            for (int t = 0; t < MOST_THINGS; t++) {
                for (int d = 0; d < MOST_LAYERS; d++) {
                    sum += Row.fromAbove(rowOf(t), d) == s ? 1 : 0;
                }
            }
            return sum;
        }

        void keepImage(int image) {
            for (int t = 0; t < MOST_THINGS; t++) {
                put(imageRows, image * MOST_THINGS + t, rowOf(t));
            }
            put(imageSpent, image, spent);
            imagesKept |= 1 << image;
        }

        boolean becomeImage(int image) {
            if ((imagesKept >> image & 1) == 0) {
                return false;
            }
            for (int t = 0; t < MOST_THINGS; t++) {
                put(rows, t, at(imageRows, image * MOST_THINGS + t));
            }
            spent = at(imageSpent, image);
            known = 0;
            return true;
        }
    }

    /**
     * The cheapest words, nearest row first. A row's label is its cost, then how many words, then
     * the first of them, as one number, so that the least label is the one that is asked for.
     */
    private static final class Search {
        static final int FAR = 1 << 30;
        private static final int ONE_COST = 1 << 16, ONE_WORD = 1 << 3, HEAP_LEVELS = 32;

        private final int[] labels = new int[Row.ALL];
        // A heap of the rows that wait, the least label first, and each one's seat in it.
        private final int[] heap = new int[Row.ALL];
        private final int[] seats = new int[Row.ALL];
        private int waiting;

        static int costOf(int label) {
            return label / ONE_COST;
        }

        static int firstOf(int label) {
            return label % ONE_COST < ONE_WORD ? ABSENT : label % ONE_WORD;
        }

        /** The label of the nearest row that works just so, or FAR. */
        int nearest(School school, int row, int effects, int pupils) {
            Arrays.fill(labels, FAR);
            waiting = 0;
            offer(row, 0);
            for (int i = 0; i < Row.ALL && waiting > 0; i++) {
                int least = takeLeast();
                if (school.worksOf(least) == effects) {
                    return at(labels, least);
                }
                goOnFrom(school, least, pupils);
            }
            return FAR;
        }

        private void goOnFrom(School school, int row, int pupils) {
            int label = at(labels, row);
            for (int word = 0; word <= SWAP; word++) {
                int next = school.after(row, pupils, word);
                if (next >= 0) {
                    int first = label == 0 ? word : 0;
                    offer(next, label + school.costOf(row, word) * ONE_COST + ONE_WORD + first);
                }
            }
        }

        private void offer(int row, int label) {
            int old = at(labels, row);
            if (label >= old) {
                return;
            }
            put(labels, row, label);
            if (old == FAR) {
                rise(waiting, row);
                waiting++;
            } else {
                // Every word makes a label greater, so a row whose label still falls is in the heap.
                rise(at(seats, row), row);
            }
        }

        private int takeLeast() {
            int least = at(heap, 0);
            waiting--;
            if (waiting > 0) {
                sink(at(heap, waiting));
            }
            return least;
        }

        private void rise(int from, int row) {
            int seat = from;
            for (int i = 0; i < HEAP_LEVELS && seat > 0; i++) {
                int above = at(heap, (seat - 1) / 2);
                if (at(labels, above) <= at(labels, row)) {
                    break;
                }
                sit(above, seat);
                seat = (seat - 1) / 2;
            }
            sit(row, seat);
        }

        private void sink(int row) {
            int seat = 0;
            for (int i = 0; i < HEAP_LEVELS && 2 * seat + 1 < waiting; i++) {
                int lower = 2 * seat + 1;
                if (lower + 1 < waiting && labelAt(lower + 1) < labelAt(lower)) {
                    lower++;
                }
                if (labelAt(lower) >= at(labels, row)) {
                    break;
                }
                sit(at(heap, lower), seat);
                seat = lower;
            }
            sit(row, seat);
        }

        private int labelAt(int seat) {
            return at(labels, at(heap, seat));
        }

        private void sit(int row, int seat) {
            put(heap, seat, row);
            put(seats, row, seat);
        }
    }

    /** A thing of which only is known what it did as layers were lifted. */
    private static final class Hat {
        static final int MOST_LAYERS_OF_HAT = 3;
        private static final int MOST_SEEN = 6, ROWS = 156, TOO_FEW_LAYERS = EFFECT_SETS;

        private final int[] liftedThen = new int[MOST_SEEN];
        private final int[] workedThen = new int[MOST_SEEN];
        private int seen;
        private final int[] answers = new int[EFFECT_SETS + 1];

        int seen() {
            return seen;
        }

        void seeNothing() {
            seen = 0;
        }

        boolean see(int layers, int effects) {
            if (seen >= MOST_SEEN) {
                return false;
            }
            put(liftedThen, seen, layers);
            put(workedThen, seen, effects);
            seen++;
            return true;
        }

        int possible(School school) {
            int rows = 0;
            for (int row = 0; row < ROWS; row++) {
                rows += canBe(school, row) ? 1 : 0;
            }
            return rows;
        }

        int spellAt(School school, int d) {
            int common = NONE;
            for (int row = 0; row < ROWS; row++) {
                if (canBe(school, row)) {
                    int s = Row.fromAbove(row, d);
                    if (common != NONE && common != s) {
                        return ABSENT;
                    }
                    common = s;
                }
            }
            return common;
        }

        int bestToLift(School school) {
            int best = NONE;
            int fewest = ROWS + 1;
            for (int layers = 0; layers <= MOST_LAYERS_OF_HAT; layers++) {
                int left = mostLeft(school, layers);
                if (left > 0 && left < fewest) {
                    fewest = left;
                    best = layers;
                }
            }
            return best;
        }

        /** How many rows the worst answer leaves if so many layers are lifted; 0: it can be none. */
        private int mostLeft(School school, int layers) {
            Arrays.fill(answers, 0);
            int most = 0;
            for (int row = 0; row < ROWS; row++) {
                if (canBe(school, row)) {
                    int answer = answerOf(school, row, layers);
                    put(answers, answer, at(answers, answer) + 1);
                    most = Math.max(most, at(answers, answer));
                }
            }
            return most;
        }

        private boolean canBe(School school, int row) {
            if (!school.knows(row)) {
                return false;
            }
            for (int i = 0; i < seen; i++) {
                if (answerOf(school, row, at(liftedThen, i)) != at(workedThen, i)) {
                    return false;
                }
            }
            return true;
        }

        private static int answerOf(School school, int row, int layers) {
            return Row.depth(row) < layers ? TOO_FEW_LAYERS : school.worksOf(Row.without(row, layers));
        }
    }

    /** Two pupils who bind one broom by turns. */
    private static final class Broom {
        /** Whether a, whose turn it is or not, brings it about that effect x is there behind the turns left. */
        private static boolean isWon(School school, int row, int a, int b, int x, int left, boolean turnOfA) {
            if (left <= 0 || left > MOST_TURNS) {
                return (school.worksOf(row) >> x & 1) == 1;
            }
            int sayer = 1 << (turnOfA ? a : b);
            for (int word = 0; word <= NOTHING; word++) {
                int next = school.after(row, sayer, word);
                if (next >= 0 && isWon(school, next, a, b, x, left - 1, !turnOfA) == turnOfA) {
                    return turnOfA;
                }
            }
            return !turnOfA;
        }

        static int firstWord(School school, int row, int a, int b, int x, int turns) {
            if (turns <= 0) {
                return NONE;
            }
            for (int word = 0; word <= NOTHING; word++) {
                int next = school.after(row, 1 << a, word);
                if (next >= 0 && isWon(school, next, a, b, x, turns - 1, false)) {
                    return word;
                }
            }
            return NONE;
        }
    }

    /** What a spell is worth as if of a kind; each body that is asked leaves its number in the trace. */
    private static final class Kinds {
        static final int MANY = 6;

        private long traced;

        long traced() {
            return traced;
        }

        int rating(int kind, School school, Shelf shelf, int s) {
            switch (kind) {
                case 1: return asCharm(school, s);
                case 2: return asCurse(school, s);
                case 3: return asFlame(school, s);
                case 4: return asFrost(school, s);
                case 5: return asWax(school, shelf, s);
                default: return asSpell(school, s);
            }
        }

        private int asSpell(School school, int s) {
            traced += 1;
            return school.effectOf(s);
        }

        private int asCharm(School school, int s) {
            traced += 10;
            return asSpell(school, s) + school.layCost(s);
        }

        private int asCurse(School school, int s) {
            traced += 100;
            return asSpell(school, s) - school.liftCost(s);
        }

        private int asFlame(School school, int s) {
            traced += 1000;
            return 2 * asCharm(school, s);
        }

        private int asFrost(School school, int s) {
            traced += 10000;
            return asCurse(school, s) + school.sayersOf(s);
        }

        private int asWax(School school, Shelf shelf, int s) {
            traced += 100000;
            return asSpell(school, s) + shelf.layersWith(s);
        }
    }
}
