import java.util.Arrays;

/**
 * Word equations over two letters and three unknown words, solved by looking at both heads.
 *
 * What is told (equation, machine, needs, words) lives in a Book; all else (short words, net,
 * answer, shortest words) follows from it and is worked out anew only when it is asked for after
 * the Book has changed. All rows are made once and used again.
 */
public final class HeadSplits {
    public static final int UNKNOWN = -1, OUTSIDE = -2, STATE = -3, FULL = -4, NO = -5, NONE = -6;

    private static final int LETTERS = 2;
    private static final int VARIABLES = 3;
    private static final int STATES = 3;
    private static final int SYMBOLS = LETTERS + VARIABLES;
    private static final int ROW_MOST = 12;
    private static final int WORD_MOST = 12;
    private static final int SIGNS_MOST = 40;
    private static final int FIRST_SIGN = 33;
    private static final int LAST_SIGN = 126;
    private static final int EQUALS = '=';
    private static final int NODES_MOST = 150;
    private static final int NODE_ROW_MOST = 24;
    private static final int ANSWER_MOST = 60;
    private static final int TURNS = 27;
    private static final int BEGINS = 1000;
    private static final int LENGTHS = 1000;

    private final Row pad;
    private final Book book;
    private final Book firstImage;
    private final Book secondImage;
    private final Shorts shorts;
    private final Net nodes;
    private final Answer found;
    private final Trial trial;
    private final Tally tally;
    private final Row leftWord;
    private final Row rightWord;
    private final Row briefWord;
    private boolean netStands;
    private boolean trialStands;

    public HeadSplits() {
        pad = new Row(SIGNS_MOST);
        book = new Book();
        firstImage = new Book();
        secondImage = new Book();
        shorts = new Shorts(book.machine);
        nodes = new Net(book, shorts);
        found = new Answer(nodes, shorts);
        trial = new Trial();
        tally = new Tally();
        leftWord = new Row(ROW_MOST * WORD_MOST);
        rightWord = new Row(ROW_MOST * WORD_MOST);
        briefWord = new Row(ANSWER_MOST);
    }

    // ---- 1 equations, needs

    public int say(int sign) {
        if (sign < FIRST_SIGN || sign > LAST_SIGN) {
            return OUTSIDE;
        }
        return pad.push(sign) ? pad.size() : FULL;
    }

    public int wipe() {
        int were = pad.size();
        pad.makeEmpty();
        return were;
    }

    public int fault() {
        return firstFault();
    }

    public int load() {
        if (firstFault() != NONE) {
            return NO;
        }
        pourPad();
        needsOrRowsChanged();
        return book.left.size() + book.right.size();
    }

    public int leads(int state, int letter, int to) {
        if (!isState(state) || !isLetter(letter) || !isState(to)) {
            return UNKNOWN;
        }
        int went = book.machine.after(state, letter);
        book.machine.turn(state, letter, to);
        machineChanged();
        return went;
    }

    public int need(int variable, int state, int set) {
        if (!isVariable(variable) || !isState(state)) {
            return UNKNOWN;
        }
        if (set < 0 || set > Need.ANY) {
            return OUTSIDE;
        }
        int was = Need.ofState(Need.ofVariable(book.needs, variable), state);
        book.needs = Need.withState(book.needs, variable, state, set);
        needsOrRowsChanged();
        return was;
    }

    public int brief(int variable, int i) {
        if (!isVariable(variable)) {
            return UNKNOWN;
        }
        shorts.refresh();
        int first = shorts.firstFit(Need.ofVariable(book.needs, variable));
        if (first == NONE) {
            return NONE;
        }
        shorts.write(first, briefWord);
        return sizeOrItem(briefWord, i);
    }

    // ---- 2 nets

    public int net(int what) {
        if (what < 0 || what > 5) {
            return OUTSIDE;
        }
        if (what == 5) {
            tally.count(book);
            return tally.mostOfAVariable();
        }
        refreshNet();
        switch (what) {
            case 0:
                return nodes.count;
            case 1:
                return nodes.verdict();
            case 2:
                return nodes.firstEnd;
            case 3:
                return nodes.deepest;
            default:
                return nodes.cuts;
        }
    }

    public int node(int i, int what) {
        refreshNet();
        Node node = nodes.at(i);
        if (node == null) {
            return UNKNOWN;
        }
        switch (what) {
            case 0:
                return node.left.size();
            case 1:
                return node.right.size();
            case 2:
                return node.depth;
            case 3:
                return node.parent;
            case 4:
                return node.by;
            case 5:
                return node.targets.size();
            case 6:
                return node.cut ? 1 : 0;
            default:
                return OUTSIDE;
        }
    }

    public int symbol(int i, int row, int k) {
        refreshNet();
        Node node = nodes.at(i);
        if (node == null) {
            return UNKNOWN;
        }
        if (row < 0 || row > 1) {
            return OUTSIDE;
        }
        return row == 0 ? node.left.at(k) : node.right.at(k);
    }

    public int needs(int i, int variable, int state) {
        refreshNet();
        Node node = nodes.at(i);
        if (node == null || !isVariable(variable) || !isState(state)) {
            return UNKNOWN;
        }
        return Need.ofState(Need.ofVariable(node.needs, variable), state);
    }

    public int move(int i, int k, int what) {
        refreshNet();
        Node node = nodes.at(i);
        if (node == null) {
            return UNKNOWN;
        }
        if (what < 0 || what > 1) {
            return OUTSIDE;
        }
        return what == 0 ? node.targets.at(k) : node.codes.at(k);
    }

    // ---- 3 answers

    public int answer(int variable, int i) {
        if (!isVariable(variable)) {
            return UNKNOWN;
        }
        refreshNet();
        if (!found.known) {
            return STATE;
        }
        return sizeOrItem(found.words.of(variable), i);
    }

    // ---- 4 words, lengths

    public int spell(int variable, int letter) {
        if (!isVariable(variable) || !isLetter(letter)) {
            return UNKNOWN;
        }
        Row word = book.words.of(variable);
        return word.push(letter) ? word.size() : FULL;
    }

    public int clear(int variable) {
        if (!isVariable(variable)) {
            return UNKNOWN;
        }
        Row word = book.words.of(variable);
        int had = word.size();
        word.makeEmpty();
        return had;
    }

    public int take() {
        refreshNet();
        if (!found.known) {
            return STATE;
        }
        if (found.words.longest() > WORD_MOST) {
            return FULL;
        }
        book.words.copy(found.words);
        return book.words.together();
    }

    public int fits() {
        boolean rows = wordsMakeRowsOne();
        boolean needs = book.wordsMeetNeeds();
        if (rows) {
            return needs ? 0 : 1;
        }
        return needs ? 2 : 3;
    }

    public int lengths(int what, int i) {
        if (what < 0 || what > 2) {
            return OUTSIDE;
        }
        if (i < -1) {
            return NONE;
        }
        tally.count(book);
        int lacking = tally.lacking(what);
        int met = 0;
        for (int code = 0; code < LENGTHS; code++) {
            if (tally.wordsGive(code / 100, code / 10 % 10, code % 10) == lacking) {
                if (met == i) {
                    return code;
                }
                met++;
            }
        }
        return i == -1 ? met : NONE;
    }

    public int shortest(int variable) {
        if (variable != -1 && !isVariable(variable)) {
            return UNKNOWN;
        }
        if (!trialStands) {
            tally.count(book);
            trial.seek(book, tally);
            trialStands = true;
        }
        if (trial.together == NONE) {
            return NONE;
        }
        return variable == -1 ? trial.together : trial.codeOf(variable);
    }

    public int image(int k) {
        if (k < 0 || k > 1) {
            return OUTSIDE;
        }
        Book kept = k == 0 ? firstImage : secondImage;
        kept.copy(book);
        kept.isImage = true;
        return 1;
    }

    public int restore(int k) {
        if (k < 0 || k > 1) {
            return OUTSIDE;
        }
        Book kept = k == 0 ? firstImage : secondImage;
        if (!kept.isImage) {
            return STATE;
        }
        book.copy(kept);
        machineChanged();
        return 1;
    }

    public int told(int what) {
        if (what == 0) {
            return pad.size();
        }
        if (what == 1) {
            return book.left.size();
        }
        if (what == 2) {
            return book.right.size();
        }
        if (what >= 10 && what < 10 + LETTERS * STATES) {
            return book.machine.after((what - 10) % STATES, (what - 10) / STATES);
        }
        if (what >= 20 && what < 20 + VARIABLES * STATES) {
            return Need.ofState(Need.ofVariable(book.needs, (what - 20) / STATES), (what - 20) % STATES);
        }
        if (what >= 30 && what < 30 + VARIABLES) {
            return book.words.of(what - 30).size();
        }
        if (what >= 100 && what < 100 + 100 * VARIABLES) {
            int letter = book.words.of(what / 100 - 1).at(what % 100);
            return letter == NONE ? OUTSIDE : letter;
        }
        return OUTSIDE;
    }

    private static boolean isLetter(int n) {
        return n >= 0 && n < LETTERS;
    }

    private static boolean isVariable(int n) {
        return n >= 0 && n < VARIABLES;
    }

    private static boolean isState(int n) {
        return n >= 0 && n < STATES;
    }

    private static int sizeOrItem(Row row, int i) {
        return i == -1 ? row.size() : row.at(i);
    }

    private static int symbolOf(int sign) {
        if (sign == 'a' || sign == 'b') {
            return sign - 'a';
        }
        if (sign >= 'x' && sign <= 'z') {
            return sign - 'x' + LETTERS;
        }
        return NONE;
    }

    private int firstFault() {
        boolean behind = false;
        int symbols = 0;
        for (int k = 0; k < pad.size(); k++) {
            if (pad.at(k) == EQUALS) {
                if (behind) {
                    return k;
                }
                behind = true;
                symbols = 0;
            } else {
                symbols++;
                if (symbolOf(pad.at(k)) == NONE || symbols > ROW_MOST) {
                    return k;
                }
            }
        }
        return behind ? NONE : pad.size();
    }

    private void pourPad() {
        book.left.makeEmpty();
        book.right.makeEmpty();
        Row row = book.left;
        for (int k = 0; k < pad.size(); k++) {
            if (pad.at(k) == EQUALS) {
                row = book.right;
            } else {
                row.push(symbolOf(pad.at(k)));
            }
        }
        pad.makeEmpty();
    }

    private void needsOrRowsChanged() {
        netStands = false;
        trialStands = false;
    }

    private void machineChanged() {
        shorts.forget();
        needsOrRowsChanged();
    }

    private void refreshNet() {
        if (netStands) {
            return;
        }
        shorts.refresh();
        nodes.begin();
        for (int i = 0; i < NODES_MOST && i < nodes.count; i++) {
            nodes.unfold(i);
        }
        found.trace();
        netStands = true;
    }

    private boolean wordsMakeRowsOne() {
        book.words.spellOut(book.left, leftWord);
        book.words.spellOut(book.right, rightWord);
        return leftWord.sameAs(rightWord);
    }

    /** A row of numbers (signs, symbols, letters, moves) up to a length that is set once. */
    private static final class Row {
        private final int[] items;
        private int count;

        Row(int most) {
            items = new int[Math.max(most, 0)];
        }

        int size() {
            return count;
        }

        int at(int k) {
            return k >= 0 && k < count && k < items.length ? items[k] : NONE;
        }

        void makeEmpty() {
            count = 0;
        }

        boolean push(int item) {
            if (count < 0 || count >= items.length) {
                return false;
            }
            items[count] = item;
            count++;
            return true;
        }

        boolean pushAhead(int item) {
            if (!makeRoom(1) || items.length == 0) {
                return false;
            }
            items[0] = item;
            return true;
        }

        boolean putAhead(Row other) {
            int more = other.count;
            if (!makeRoom(more)) {
                return false;
            }
            for (int k = 0; k < more && k < items.length && k < other.items.length; k++) {
                items[k] = other.items[k];
            }
            return true;
        }

        /** Moves all items back; from the last one on, as the places overlap. */
        private boolean makeRoom(int places) {
            if (places < 0 || places > items.length - count) {
                return false;
            }
            for (int k = count - 1; k >= 0; k--) {
                items[k + places] = items[k];
            }
            count += places;
            return true;
        }

        void dropFirst(int places) {
            if (places <= 0 || places > count) {
                return;
            }
            count -= places;
            for (int k = 0; k < count; k++) {
                items[k] = items[k + places];
            }
        }

        void copy(Row other) {
            count = 0;
            for (int k = 0; k < other.count && k < other.items.length && k < items.length; k++) {
                items[k] = other.items[k];
                count++;
            }
        }

        void add(Row other) {
            for (int k = 0; k < other.count && k < other.items.length && count < items.length; k++) {
                items[count] = other.items[k];
                count++;
            }
        }

        void copyWithout(Row other, int item) {
            count = 0;
            for (int k = 0; k < other.count && k < other.items.length; k++) {
                if (other.items[k] != item) {
                    push(other.items[k]);
                }
            }
        }

        void copyWithAhead(Row other, int item, int ahead) {
            count = 0;
            for (int k = 0; k < other.count && k < other.items.length; k++) {
                if (other.items[k] == item) {
                    push(ahead);
                }
                push(other.items[k]);
            }
        }

        boolean sameAs(Row other) {
            if (count != other.count) {
                return false;
            }
            for (int k = 0; k < count && k < items.length && k < other.items.length; k++) {
                if (items[k] != other.items[k]) {
                    return false;
                }
            }
            return true;
        }

        int sameAtFront(Row other) {
            int same = 0;
            while (same < count && same < other.count && at(same) == other.at(same)) {
                same++;
            }
            return same;
        }

        /** Alike rows have the same mark, so that few rows must be compared. */
        int mark() {
            int mark = count;
            for (int k = 0; k < count && k < items.length; k++) {
                mark = mark * 31 + items[k] + 1;
            }
            return mark;
        }
    }

    /** Where each letter leads from each state. A map of states is held like a need, as bits. */
    private static final class Machine {
        private final int[] goes = new int[LETTERS * STATES];

        Machine() {
            for (int k = 0; k < goes.length; k++) {
                goes[k] = k % STATES;
            }
        }

        int after(int state, int letter) {
            int place = STATES * letter + state;
            return place >= 0 && place < goes.length ? goes[place] : 0;
        }

        void turn(int state, int letter, int to) {
            int place = STATES * letter + state;
            if (place >= 0 && place < goes.length) {
                goes[place] = to;
            }
        }

        /** Where a word and this letter behind it lead, if the word alone leads as the map has it. */
        int mapBehind(int map, int letter) {
            int behind = 0;
            for (int s = 0; s < STATES; s++) {
                for (int t = 0; t < STATES; t++) {
                    if ((map >> 3 * s + t & 1) == 1) {
                        behind |= 1 << 3 * s + after(t, letter);
                    }
                }
            }
            return behind;
        }

        void copy(Machine other) {
            for (int k = 0; k < goes.length && k < other.goes.length; k++) {
                goes[k] = other.goes[k];
            }
        }
    }

    /**
     * Needs as bits: a need of one variable has 3 bits for each state (9 in all), the needs of all
     * variables stand one behind the other (27), so that alike needs are the same number.
     */
    private static final class Need {
        private static final int ANY = 7;
        private static final int FREE = 511;
        private static final int ALL_FREE = (1 << 27) - 1;
        /** Each state leads to itself, as it does by the empty word. */
        private static final int STAY = 1 | 1 << 4 | 1 << 8;

        static int ofVariable(int needs, int variable) {
            return needs >> 9 * variable & FREE;
        }

        static int ofState(int need, int state) {
            return need >> 3 * state & ANY;
        }

        static int withVariable(int needs, int variable, int need) {
            return needs & ~(FREE << 9 * variable) | need << 9 * variable;
        }

        static int withState(int needs, int variable, int state, int set) {
            int place = 9 * variable + 3 * state;
            return needs & ~(ANY << place) | set << place;
        }

        static boolean allows(int need, int map) {
            return (map & ~need) == 0;
        }

        static int narrowed(int need, int state, int set) {
            return need & ~((ANY & ~set) << 3 * state);
        }

        static int behindLetter(int need, int letter, Machine machine) {
            int behind = FREE;
            for (int s = 0; s < STATES; s++) {
                behind = narrowed(behind, machine.after(s, letter), ofState(need, s));
            }
            return behind;
        }

        static int stateOfTurn(int turn, int state) {
            return state == 0 ? turn % 3 : state == 1 ? turn / 3 % 3 : turn / 9 % 3;
        }

        /** A turn says 0 of a state from which all is allowed: else one way would be told often. */
        static boolean isTurn(int need, int turn) {
            for (int s = 0; s < STATES; s++) {
                if (ofState(need, s) == ANY && stateOfTurn(turn, s) != 0) {
                    return false;
                }
            }
            return true;
        }

        /** States from which all is allowed take part too: they take nothing away. */
        static int behindTurn(int need, int turn) {
            int behind = FREE;
            for (int s = 0; s < STATES; s++) {
                behind = narrowed(behind, stateOfTurn(turn, s), ofState(need, s));
            }
            return behind;
        }

        static int aheadOfTurn(int ahead, int need, int turn) {
            int narrow = ahead;
            for (int s = 0; s < STATES; s++) {
                if (ofState(need, s) != ANY) {
                    narrow = narrowed(narrow, s, 1 << stateOfTurn(turn, s));
                }
            }
            return narrow;
        }
    }

    /** A word for each variable. */
    private static final class Words {
        private final Row x;
        private final Row y;
        private final Row z;

        Words(int most) {
            x = new Row(most);
            y = new Row(most);
            z = new Row(most);
        }

        Row of(int variable) {
            return variable == 0 ? x : variable == 1 ? y : z;
        }

        void copy(Words other) {
            x.copy(other.x);
            y.copy(other.y);
            z.copy(other.z);
        }

        int together() {
            return x.size() + y.size() + z.size();
        }

        int longest() {
            return Math.max(x.size(), Math.max(y.size(), z.size()));
        }

        void spellOut(Row symbols, Row letters) {
            letters.makeEmpty();
            for (int k = 0; k < symbols.size(); k++) {
                int symbol = symbols.at(k);
                if (symbol < LETTERS) {
                    letters.push(symbol);
                } else {
                    letters.add(of(symbol - LETTERS));
                }
            }
        }
    }

    /** All that is told but the pad: what an image keeps. */
    private static final class Book {
        private final Row left = new Row(ROW_MOST);
        private final Row right = new Row(ROW_MOST);
        private final Machine machine = new Machine();
        private final Words words = new Words(WORD_MOST);
        private int needs = Need.ALL_FREE;
        private boolean isImage;

        void copy(Book other) {
            left.copy(other.left);
            right.copy(other.right);
            machine.copy(other.machine);
            words.copy(other.words);
            needs = other.needs;
        }

        boolean wordsMeetNeeds() {
            for (int v = 0; v < VARIABLES; v++) {
                if (!Need.allows(Need.ofVariable(needs, v), mapOf(words.of(v)))) {
                    return false;
                }
            }
            return true;
        }

        private int mapOf(Row word) {
            int map = Need.STAY;
            for (int k = 0; k < word.size(); k++) {
                map = machine.mapBehind(map, word.at(k));
            }
            return map;
        }
    }

    /**
     * The maps of states that words make. There are at most 27, and they are found by breadth, the
     * letter a first, so each is met by its shortest word, of as short ones by the first, and the
     * first map that a need allows is that of its short word.
     */
    private static final class Shorts {
        private static final int MAPS = 27;
        private static final int NOT_SOUGHT = -1;

        private final Machine machine;
        private final int[] maps = new int[MAPS];
        private final int[] from = new int[MAPS];
        private final int[] letter = new int[MAPS];
        private final int[] fitting = new int[Need.FREE + 1];
        private int count;
        private boolean stands;

        Shorts(Machine machine) {
            this.machine = machine;
        }

        void forget() {
            stands = false;
        }

        void refresh() {
            if (stands) {
                return;
            }
            Arrays.fill(fitting, NOT_SOUGHT);
            count = 0;
            meet(Need.STAY, NONE, NONE);
            for (int k = 0; k < MAPS && k < count; k++) {
                for (int c = 0; c < LETTERS; c++) {
                    meet(machine.mapBehind(maps[k], c), k, c);
                }
            }
            stands = true;
        }

        private void meet(int map, int before, int by) {
            for (int k = 0; k < count && k < MAPS; k++) {
                if (maps[k] == map) {
                    return;
                }
            }
            if (count < 0 || count >= MAPS) {
                return;
            }
            maps[count] = map;
            from[count] = before;
            letter[count] = by;
            count++;
        }

        int firstFit(int need) {
            int place = need & Need.FREE;
            if (fitting[place] == NOT_SOUGHT) {
                fitting[place] = NONE;
                for (int k = 0; k < count && k < MAPS; k++) {
                    if (Need.allows(need, maps[k])) {
                        fitting[place] = k;
                        break;
                    }
                }
            }
            return fitting[place];
        }

        boolean anyHopeless(int needs) {
            for (int v = 0; v < VARIABLES; v++) {
                if (firstFit(Need.ofVariable(needs, v)) == NONE) {
                    return true;
                }
            }
            return false;
        }

        void write(int which, Row word) {
            word.makeEmpty();
            int k = which;
            for (int step = 0; step < MAPS && k > 0 && k < MAPS; step++) {
                word.pushAhead(letter[k]);
                k = from[k];
            }
        }
    }

    /** Two rows and needs, how they were met, and where their moves lead. */
    private static final class Node {
        private static final int MOVES_MOST = 2 + 2 * TURNS;

        private final int number;
        private final Row left = new Row(NODE_ROW_MOST);
        private final Row right = new Row(NODE_ROW_MOST);
        private final Row targets = new Row(MOVES_MOST);
        private final Row codes = new Row(MOVES_MOST);
        private int needs;
        private int depth;
        private int parent;
        private int by;
        private int nextOfBucket;
        private boolean cut;

        Node(int number) {
            this.number = number;
        }

        void start(int newNeeds, Row newLeft, Row newRight) {
            left.copy(newLeft);
            right.copy(newRight);
            targets.makeEmpty();
            codes.makeEmpty();
            needs = newNeeds;
            depth = 0;
            parent = NONE;
            by = NONE;
            cut = false;
        }

        /** Only node 0 has no parent, so one without has just been met. */
        void addMove(Node to, int code) {
            if (to.parent == NONE && to.number != 0) {
                to.parent = number;
                to.by = code;
                to.depth = depth + 1;
            }
            targets.push(to.number);
            codes.push(code);
        }
    }

    /** All nodes that moves lead to from the equation. */
    private static final class Net {
        private static final int BUCKETS = 256;

        private final Book book;
        private final Shorts shorts;
        private final Node[] pool = new Node[NODES_MOST];
        private final int[] buckets = new int[BUCKETS];
        /** What a move leads to: each symbol may become two before the row is made lean. */
        private final Row left = new Row(2 * NODE_ROW_MOST);
        private final Row right = new Row(2 * NODE_ROW_MOST);
        private final Row draftNeeds = new Row(TURNS);
        private final Row draftCodes = new Row(TURNS);
        private int mark;
        private int count;
        private int firstEnd;
        private int deepest;
        private int cuts;

        Net(Book book, Shorts shorts) {
            this.book = book;
            this.shorts = shorts;
        }

        Node at(int i) {
            return i >= 0 && i < count && i < NODES_MOST ? pool[i] : null;
        }

        int verdict() {
            if (firstEnd != NONE) {
                return 1;
            }
            return cuts == 0 ? 0 : 2;
        }

        void begin() {
            count = 0;
            firstEnd = NONE;
            deepest = 0;
            cuts = 0;
            Arrays.fill(buckets, NONE);
            left.copy(book.left);
            right.copy(book.right);
            makeLean();
            meet(book.needs);
        }

        void unfold(int i) {
            Node node = at(i);
            if (node == null) {
                return;
            }
            deepest = Math.max(deepest, node.depth);
            int u = node.left.at(0);
            int v = node.right.at(0);
            if (u == NONE && v == NONE) {
                if (firstEnd == NONE && !shorts.anyHopeless(node.needs)) {
                    firstEnd = node.number;
                }
                return;
            }
            draftNothing(node, u);
            settleDrafts(node);
            draftNothing(node, v);
            settleDrafts(node);
            if (u != NONE && v != NONE) {
                draftBegins(node, u, v);
                settleDrafts(node);
                draftBegins(node, v, u);
                settleDrafts(node);
            }
            if (node.cut) {
                cuts++;
            }
        }

        private void draftNothing(Node node, int symbol) {
            int variable = symbol - LETTERS;
            if (!isVariable(variable) || !Need.allows(Need.ofVariable(node.needs, variable), Need.STAY)) {
                return;
            }
            left.copyWithout(node.left, symbol);
            right.copyWithout(node.right, symbol);
            makeLean();
            addDraft(Need.withVariable(node.needs, variable, Need.FREE), 100 * variable);
        }

        private void draftBegins(Node node, int symbol, int other) {
            int variable = symbol - LETTERS;
            if (!isVariable(variable)) {
                return;
            }
            left.copyWithAhead(node.left, symbol, other);
            right.copyWithAhead(node.right, symbol, other);
            makeLean();
            int code = BEGINS + 100 * variable;
            if (isVariable(other - LETTERS)) {
                draftTurns(node.needs, variable, other - LETTERS, code);
            } else {
                int need = Need.ofVariable(node.needs, variable);
                int behind = Need.behindLetter(need, other, book.machine);
                addDraft(Need.withVariable(node.needs, variable, behind), code);
            }
        }

        private void draftTurns(int needs, int variable, int other, int code) {
            int need = Need.ofVariable(needs, variable);
            int ahead = Need.ofVariable(needs, other);
            for (int turn = 0; turn < TURNS; turn++) {
                if (Need.isTurn(need, turn)) {
                    int behind = Need.withVariable(needs, variable, Need.behindTurn(need, turn));
                    addDraft(Need.withVariable(behind, other, Need.aheadOfTurn(ahead, need, turn)), code + turn);
                }
            }
        }

        private void addDraft(int needs, int code) {
            draftNeeds.push(needs);
            draftCodes.push(code);
        }

        private void makeLean() {
            int same = left.sameAtFront(right);
            left.dropFirst(same);
            right.dropFirst(same);
            mark = left.mark() * 31 + right.mark();
        }

        /** A hopeless draft is passed over ahead of all else: by it the node is not cut. */
        private void settleDrafts(Node node) {
            boolean tooLong = left.size() > NODE_ROW_MOST || right.size() > NODE_ROW_MOST;
            for (int k = 0; k < draftNeeds.size(); k++) {
                int needs = draftNeeds.at(k);
                if (shorts.anyHopeless(needs)) {
                    continue;
                }
                Node to = tooLong ? null : metBefore(needs);
                if (to == null && !tooLong) {
                    to = meet(needs);
                }
                if (to == null) {
                    node.cut = true;
                } else {
                    node.addMove(to, draftCodes.at(k));
                }
            }
            draftNeeds.makeEmpty();
            draftCodes.makeEmpty();
        }

        private int bucketOf(int needs) {
            int mixed = (mark ^ needs * 31) * 0x9E3779B1;
            return mixed >>> 24 & BUCKETS - 1;
        }

        private Node metBefore(int needs) {
            int bucket = bucketOf(needs);
            int next = buckets[bucket];
            for (int step = 0; step < NODES_MOST; step++) {
                Node node = at(next);
                if (node == null) {
                    return null;
                }
                if (node.needs == needs && node.left.sameAs(left) && node.right.sameAs(right)) {
                    return node;
                }
                next = node.nextOfBucket;
            }
            return null;
        }

        /** Null, if there are too many. */
        private Node meet(int needs) {
            if (count < 0 || count >= NODES_MOST) {
                return null;
            }
            Node node = pool[count];
            if (node == null) {
                node = new Node(count);
                pool[count] = node;
            }
            node.start(needs, left, right);
            int bucket = bucketOf(needs);
            node.nextOfBucket = buckets[bucket];
            buckets[bucket] = count;
            count++;
            return node;
        }
    }

    /** The words that the way to the first end tells. */
    private static final class Answer {
        private final Net net;
        private final Shorts shorts;
        private final Words words = new Words(ANSWER_MOST);
        private boolean known;

        Answer(Net net, Shorts shorts) {
            this.net = net;
            this.shorts = shorts;
        }

        void trace() {
            known = false;
            Node node = net.at(net.firstEnd);
            if (node == null) {
                return;
            }
            for (int v = 0; v < VARIABLES; v++) {
                shorts.write(shorts.firstFit(Need.ofVariable(node.needs, v)), words.of(v));
            }
            for (int step = 0; step < NODES_MOST; step++) {
                Node before = net.at(node.parent);
                if (before == null) {
                    known = true;
                    return;
                }
                if (!goBack(before, node.by)) {
                    return;
                }
                node = before;
            }
        }

        /** False, if a word would become too long. */
        private boolean goBack(Node before, int code) {
            int variable = code / 100 % 10;
            Row word = words.of(variable);
            if (code < BEGINS) {
                word.makeEmpty();
                return true;
            }
            int u = before.left.at(0);
            int other = u == variable + LETTERS ? before.right.at(0) : u;
            if (isVariable(other - LETTERS)) {
                return word.putAhead(words.of(other - LETTERS));
            }
            return word.pushAhead(other);
        }
    }

    /** How often each symbol is in the equation, and how much more often on the left. */
    private static final class Tally {
        /** More than any words of 9 letters give to any rows. */
        private static final int TOO_MUCH = 1000;

        private final int[] times = new int[SYMBOLS];
        private final int[] surplus = new int[SYMBOLS];

        void count(Book book) {
            Arrays.fill(times, 0);
            Arrays.fill(surplus, 0);
            countRow(book.left, 1);
            countRow(book.right, -1);
        }

        private void countRow(Row row, int side) {
            for (int k = 0; k < row.size(); k++) {
                int symbol = row.at(k);
                if (symbol >= 0 && symbol < SYMBOLS) {
                    times[symbol]++;
                    surplus[symbol] += side;
                }
            }
        }

        int mostOfAVariable() {
            return Math.max(times[2], Math.max(times[3], times[4]));
        }

        /** How many letters more words of these lengths give to the left row. */
        int wordsGive(int x, int y, int z) {
            return x * surplus[2] + y * surplus[3] + z * surplus[4];
        }

        /**
         * How many that must be, so that both rows have as many letters (0), or as many a's and as
         * many b's, if all that words give are a's (1), or b's (2).
         */
        int lacking(int what) {
            if (what == 0) {
                return -surplus[0] - surplus[1];
            }
            int given = what == 1 ? surplus[0] : surplus[1];
            int notGiven = what == 1 ? surplus[1] : surplus[0];
            return notGiven == 0 ? -given : TOO_MUCH;
        }
    }

    /**
     * The shortest words that fit. The 15 words of up to 3 letters are numbered in their order:
     * with a 1 ahead of its letters as binary digits, a word is its number and 1.
     */
    private static final class Trial {
        private static final int WORDS = 15;
        private static final int SIZE_MOST = 3;

        private final int[] maps = new int[WORDS];
        /** Which words are as the need has it, as bits. */
        private final int[] allowed = new int[VARIABLES];
        /** What is tried for each symbol; a letter is a word of one letter. */
        private final int[] sizes = new int[SYMBOLS];
        private final int[] digits = new int[SYMBOLS];
        private int together;

        Trial() {
            for (int letter = 0; letter < LETTERS; letter++) {
                sizes[letter] = 1;
                digits[letter] = letter;
            }
        }

        void seek(Book book, Tally tally) {
            findMaps(book.machine);
            for (int v = 0; v < VARIABLES; v++) {
                allowed[v] = allowedWords(Need.ofVariable(book.needs, v));
            }
            for (int all = 0; all <= SIZE_MOST * VARIABLES; all++) {
                if (seekOfSize(book, tally, all)) {
                    together = all;
                    return;
                }
            }
            together = NONE;
        }

        private boolean seekOfSize(Book book, Tally tally, int all) {
            for (int x = 0; x < WORDS; x++) {
                if (!choose(0, x)) {
                    continue;
                }
                for (int y = 0; y < WORDS; y++) {
                    if (!choose(1, y)) {
                        continue;
                    }
                    int rest = all - sizeOf(x) - sizeOf(y);
                    if (rest >= 0 && rest <= SIZE_MOST
                            && tally.wordsGive(sizeOf(x), sizeOf(y), rest) == tally.lacking(0)
                            && seekLast(book, rest)) {
                        return true;
                    }
                }
            }
            return false;
        }

        private boolean seekLast(Book book, int size) {
            for (int z = (1 << size) - 1; z < (2 << size) - 1; z++) {
                if (choose(2, z) && spelled(book.left) == spelled(book.right)) {
                    return true;
                }
            }
            return false;
        }

        /** False, if the word is not as the need has it. */
        private boolean choose(int variable, int word) {
            if (!isVariable(variable) || (allowed[variable] >> word & 1) == 0) {
                return false;
            }
            sizes[variable + LETTERS] = sizeOf(word);
            digits[variable + LETTERS] = word + 1 - (1 << sizeOf(word));
            return true;
        }

        /** At most 36 letters as binary digits, a 1 ahead of them: as long ones alone are the same. */
        private long spelled(Row row) {
            long all = 1;
            for (int k = 0; k < row.size(); k++) {
                int symbol = row.at(k);
                if (symbol >= 0 && symbol < SYMBOLS) {
                    all = (all << sizes[symbol]) + digits[symbol];
                }
            }
            return all;
        }

        private static int sizeOf(int word) {
            return word < 1 ? 0 : word < 3 ? 1 : word < 7 ? 2 : 3;
        }

        /** Words are numbered as in a heap: the word without its last letter is half of it. */
        private void findMaps(Machine machine) {
            maps[0] = Need.STAY;
            for (int word = 1; word < WORDS; word++) {
                maps[word] = machine.mapBehind(maps[(word - 1) / 2], (word - 1) % 2);
            }
        }

        private int allowedWords(int need) {
            int words = 0;
            for (int word = 0; word < WORDS; word++) {
                if (Need.allows(need, maps[word])) {
                    words |= 1 << word;
                }
            }
            return words;
        }

        /** The face has the first letter lowest, the digits have it highest. */
        int codeOf(int variable) {
            if (!isVariable(variable)) {
                return NONE;
            }
            int size = sizes[variable + LETTERS];
            int bits = 0;
            for (int k = 0; k < size; k++) {
                bits = 2 * bits + (digits[variable + LETTERS] >> k & 1);
            }
            return 100 * size + bits;
        }
    }
}
