/**
 * Crossed words: a grid of 4 by 4 cells with blocks, the slots in it, and a list of words that
 * may be put into them. ../shared/DOC.md says what each call does.
 *
 * A set is a whole number, bit k for k. All rows are made once, in the constructors: no call
 * makes an object.
 */
public final class CrossedWords {
    public static final int NONE = -1, UNKNOWN = -1000000001, OUTSIDE = -1000000002, NOT = -1000000003, FULL = -1000000004;

    private static final int SIDE = 4;
    private static final int CELLS = 16;
    /** A line of four cells has room for one slot of two cells or more: four across, four down. */
    private static final int SLOTS = 8;
    private static final int LEAST_SIZE = 2;
    private static final int WORDS = 16;
    private static final int ALL_WORDS = 65535;

    private static final int LETTERS = 6;
    private static final int FIRST_LETTER = 97;
    private static final int ALL_LETTERS = 63;
    private static final int BLANK = 0;
    private static final int BLOCKED = -1;

    private static final int CODE_BASE = 7;
    private static final int LEAST_CODE = 8;
    private static final int GREATEST_CODE = 2400;

    private static final int MOST_FILLINGS = 999;
    private static final int KNOT_SLOTS = 6;
    private static final int GREATEST_SEED = 999999;
    private static final int UNDOABLE = 10;
    private static final int IMAGES = 2;

    private final Board board;
    private final Slots slots;
    private final Index index;
    private final Chances chances;
    private final Filler filler;
    private final Past past;

    public CrossedWords() {
        board = new Board();
        slots = new Slots();
        index = new Index();
        chances = new Chances(slots, index);
        filler = new Filler(slots, chances);
        past = new Past();
        renew();
    }

    // ---- the grid

    public int block(int cell) {
        if (!isCell(cell)) {
            return UNKNOWN;
        }
        if (board.cells.get(cell) == BLOCKED) {
            return NOT;
        }
        past.note(board);
        board.cells.set(cell, BLOCKED);
        renew();
        return slots.count;
    }

    public int open(int cell) {
        if (!isCell(cell)) {
            return UNKNOWN;
        }
        if (board.cells.get(cell) != BLOCKED) {
            return NOT;
        }
        past.note(board);
        board.cells.set(cell, BLANK);
        renew();
        return slots.count;
    }

    public int letter(int cell, int letter) {
        if (!isCell(cell)) {
            return UNKNOWN;
        }
        if (letter != NONE && !isLetter(letter)) {
            return OUTSIDE;
        }
        int wanted = letter == NONE ? BLANK : letter;
        int was = board.cells.get(cell);
        if (was == BLOCKED || was == wanted) {
            return NOT;
        }
        past.note(board);
        board.cells.set(cell, wanted);
        renew();
        return was == BLANK ? NONE : was;
    }

    public int put(int slot, int word) {
        if (!isSlot(slot) || !isWord(word)) {
            return UNKNOWN;
        }
        if (!contains(index.sized.get(slots.size.get(slot)), word)) {
            return NOT;
        }
        past.note(board);
        int changed = writeWord(slot, word);
        renew();
        return changed;
    }

    public int wipe() {
        past.note(board);
        int wiped = board.clearLetters();
        renew();
        return wiped;
    }

    public int turn() {
        past.note(board);
        board.swapRowsAndColumns();
        renew();
        return slots.count;
    }

    // ---- the list

    public int add(int code) {
        if (lengthOf(code) == 0) {
            return OUTSIDE;
        }
        if (board.numberOf(code) != NONE) {
            return NOT;
        }
        if (board.words >= WORDS) {
            return FULL;
        }
        past.note(board);
        board.append(code);
        renew();
        return board.words - 1;
    }

    public int strike(int word) {
        if (!isWord(word)) {
            return UNKNOWN;
        }
        past.note(board);
        board.takeOut(word);
        renew();
        return board.words;
    }

    public int drift(int n, int seed) {
        if (n < 1 || n > WORDS || seed < 1 || seed > GREATEST_SEED) {
            return OUTSIDE;
        }
        past.note(board);
        int added = appendByLots(n, seed);
        renew();
        return added;
    }

    public int undo() {
        if (past.depth == 0) {
            return NOT;
        }
        past.stepBack(board);
        renew();
        return past.depth;
    }

    public int told(int what) {
        switch (what) {
            case 0: return slots.count;
            case 1: return board.words;
            case 2: return board.blockedCells();
            case 3: return board.letteredCells();
            case 4: return slots.crossings;
            case 5: return fullSlots();
            case 6: return wrongSlots();
            case 7: return hardestSlot();
            case 8: return filler.fillings(MOST_FILLINGS);
            case 9: return knottedSlots();
            case 10: return emptySlots();
            case 11: return past.depth;
            default: return OUTSIDE;
        }
    }

    public int cell(int cell, int what) {
        if (!isCell(cell)) {
            return UNKNOWN;
        }
        switch (what) {
            case 0: return board.cells.get(cell);
            case 1: return slots.across.get(cell);
            case 2: return slots.down.get(cell);
            case 3: return lettersThatCanBe(cell);
            default: return OUTSIDE;
        }
    }

    public int slot(int slot, int what) {
        if (!isSlot(slot)) {
            return UNKNOWN;
        }
        switch (what) {
            case 0: return slots.first.get(slot);
            case 1: return slots.size.get(slot);
            case 2: return slots.isDown(slot) ? 1 : 0;
            case 3: return slots.crossed.get(slot);
            case 4: return Integer.bitCount(chances.fitting.get(slot));
            case 5: return chances.left.get(slot);
            case 6: return board.numberOf(slots.codeIn(slot, board));
            case 7: return wordInFirstFilling(slot);
            default: return OUTSIDE;
        }
    }

    public int word(int word, int what) {
        if (!isWord(word)) {
            return UNKNOWN;
        }
        int code = board.codes.get(word);
        switch (what) {
            case 0: return code;
            case 1: return lengthOf(code);
            case 2: return Integer.bitCount(chances.slotsWith(word, chances.fitting));
            case 3: return chances.slotsWith(word, chances.left);
            case 4: return firstSlotThatReads(code);
            default: return OUTSIDE;
        }
    }

    public int find(int code) {
        return lengthOf(code) == 0 ? OUTSIDE : board.numberOf(code);
    }

    public int odds(int slot, int word, int other, int another) {
        if (!isSlot(slot) || !isWord(word) || !isSlot(other) || !isWord(another) || slot == other) {
            return UNKNOWN;
        }
        if (!contains(slots.crossed.get(slot), other)) {
            return NONE;
        }
        boolean bothFit = contains(chances.fitting.get(slot), word) && contains(chances.fitting.get(other), another);
        return bothFit && contains(chances.besides(slot, word, other), another) ? 0 : 1;
    }

    public int with(int slot, int word) {
        if (!isSlot(slot) || !isWord(word)) {
            return UNKNOWN;
        }
        return filler.fillingsWith(slot, word, MOST_FILLINGS);
    }

    // ---- images

    public int keep(int i) {
        if (!isImage(i)) {
            return UNKNOWN;
        }
        past.keepImage(i, board);
        return board.words;
    }

    public int goBack(int i) {
        if (!isImage(i)) {
            return UNKNOWN;
        }
        if (!contains(past.images, i)) {
            return NOT;
        }
        past.bringImage(i, board);
        renew();
        return board.words;
    }

    // ---- what the calls share

    private static boolean isCell(int cell) {
        return cell >= 0 && cell < CELLS;
    }

    private static boolean isLetter(int letter) {
        return letter >= FIRST_LETTER && letter < FIRST_LETTER + LETTERS;
    }

    private static boolean isImage(int i) {
        return i >= 0 && i < IMAGES;
    }

    private boolean isSlot(int slot) {
        return slot >= 0 && slot < slots.count;
    }

    private boolean isWord(int word) {
        return word >= 0 && word < board.words;
    }

    private static boolean contains(int set, int k) {
        return (set >> k & 1) == 1;
    }

    /** The length of the word that has a code; 0: none has it. */
    private static int lengthOf(int code) {
        if (code < LEAST_CODE || code > GREATEST_CODE) {
            return 0;
        }
        int rest = code;
        int length = 0;
        for (int i = 0; i < SIDE && rest > 0; i++) {
            if (rest % CODE_BASE == 0) {
                return 0;
            }
            rest /= CODE_BASE;
            length++;
        }
        return length;
    }

    /** All that follows from the grid and the list is told anew here, after each change of them. */
    private void renew() {
        slots.read(board);
        index.read(board);
        chances.read(board);
    }

    private int writeWord(int slot, int word) {
        int changed = 0;
        for (int place = 0; place < slots.size.get(slot); place++) {
            int cell = slots.cellAt(slot, place);
            int letter = FIRST_LETTER + index.letterOf(word, place);
            if (board.cells.get(cell) != letter) {
                board.cells.set(cell, letter);
                changed++;
            }
        }
        return changed;
    }

    private int appendByLots(int n, int seed) {
        int added = 0;
        long x = seed;
        for (int i = 0; i < n; i++) {
            x = nextLot(x);
            int length = LEAST_SIZE + (int) (x % 3);
            int code = 0;
            for (int place = 0; place < length; place++) {
                x = nextLot(x);
                code = code * CODE_BASE + 1 + (int) (x % LETTERS);
            }
            if (board.numberOf(code) == NONE && board.words < WORDS) {
                board.append(code);
                added++;
            }
        }
        return added;
    }

    private static long nextLot(long x) {
        return x * 16807L % 2147483647L;
    }

    private int fullSlots() {
        int set = 0;
        for (int slot = 0; slot < slots.count; slot++) {
            if (slots.codeIn(slot, board) != 0) {
                set |= 1 << slot;
            }
        }
        return set;
    }

    /** A slot whose letters are no word and stand in a lesser slot too counts for both. */
    private int wrongSlots() {
        int wrong = 0;
        for (int slot = 0; slot < slots.count; slot++) {
            int code = slots.codeIn(slot, board);
            if (code != 0) {
                wrong += board.numberOf(code) == NONE ? 1 : 0;
                wrong += firstSlotThatReads(code) != slot ? 1 : 0;
            }
        }
        return wrong;
    }

    private int firstSlotThatReads(int code) {
        for (int slot = 0; slot < slots.count; slot++) {
            if (slots.codeIn(slot, board) == code) {
                return slot;
            }
        }
        return NONE;
    }

    private int hardestSlot() {
        int hardest = NONE;
        for (int slot = 0; slot < slots.count; slot++) {
            if (slots.codeIn(slot, board) == 0 && (hardest == NONE || isHarder(slot, hardest))) {
                hardest = slot;
            }
        }
        return hardest;
    }

    private boolean isHarder(int slot, int than) {
        int words = Integer.bitCount(chances.left.get(slot));
        int wordsThan = Integer.bitCount(chances.left.get(than));
        if (words != wordsThan) {
            return words < wordsThan;
        }
        return Integer.bitCount(slots.crossed.get(slot)) > Integer.bitCount(slots.crossed.get(than));
    }

    private int knottedSlots() {
        int count = slots.count;
        if (count > KNOT_SLOTS) {
            return NONE;
        }
        // Once all can be filled, each part can: no need to look at the parts.
        if (filler.fillings(1) > 0) {
            return 0;
        }
        for (int size = 1; size <= count; size++) {
            for (int set = 1; set < 1 << count; set++) {
                if (Integer.bitCount(set) == size && !filler.canFill(set)) {
                    return set;
                }
            }
        }
        return 0;
    }

    private int emptySlots() {
        int set = 0;
        for (int slot = 0; slot < slots.count; slot++) {
            if (chances.left.get(slot) == 0) {
                set |= 1 << slot;
            }
        }
        return set;
    }

    private int wordInFirstFilling(int slot) {
        return filler.fillings(1) == 0 ? NONE : filler.chosen.get(slot);
    }

    private int lettersThatCanBe(int cell) {
        int letter = board.cells.get(cell);
        if (letter == BLOCKED) {
            return 0;
        }
        int across = slots.across.get(cell);
        int down = slots.down.get(cell);
        if (across == NONE && down == NONE) {
            return letter == BLANK ? ALL_LETTERS : 1 << (letter - FIRST_LETTER);
        }
        return lettersLeft(across, cell) & lettersLeft(down, cell);
    }

    private int lettersLeft(int slot, int cell) {
        if (slot == NONE) {
            return ALL_LETTERS;
        }
        int place = slots.placeOf(cell, slot);
        int set = 0;
        for (int letter = 0; letter < LETTERS; letter++) {
            if ((chances.left.get(slot) & index.wordsHaving(place, letter)) != 0) {
                set |= 1 << letter;
            }
        }
        return set;
    }

    /** Numbers in a row. No other class touches an array, so that each index is looked at here. */
    private static final class Row {
        private final int[] items;

        Row(int length) {
            items = new int[Math.max(0, length)];
        }

        int get(int i) {
            return i >= 0 && i < items.length ? items[i] : 0;
        }

        void set(int i, int value) {
            if (i >= 0 && i < items.length) {
                items[i] = value;
            }
        }

        void fill(int value) {
            for (int i = 0; i < items.length; i++) {
                items[i] = value;
            }
        }
    }

    /** The grid and the list: all that is changed, undone and kept. */
    private static final class Board {
        /** BLOCKED, BLANK or a letter. */
        private final Row cells = new Row(CELLS);
        private final Row codes = new Row(WORDS);
        private int words;

        int numberOf(int code) {
            for (int word = 0; word < words; word++) {
                if (codes.get(word) == code) {
                    return word;
                }
            }
            return NONE;
        }

        void append(int code) {
            if (words < WORDS) {
                codes.set(words, code);
                words++;
            }
        }

        void takeOut(int word) {
            for (int i = word; i < words - 1; i++) {
                codes.set(i, codes.get(i + 1));
            }
            words--;
        }

        int blockedCells() {
            int set = 0;
            for (int cell = 0; cell < CELLS; cell++) {
                if (cells.get(cell) == BLOCKED) {
                    set |= 1 << cell;
                }
            }
            return set;
        }

        int letteredCells() {
            int set = 0;
            for (int cell = 0; cell < CELLS; cell++) {
                if (cells.get(cell) >= FIRST_LETTER) {
                    set |= 1 << cell;
                }
            }
            return set;
        }

        int clearLetters() {
            int cleared = 0;
            for (int cell = 0; cell < CELLS; cell++) {
                if (cells.get(cell) >= FIRST_LETTER) {
                    cells.set(cell, BLANK);
                    cleared++;
                }
            }
            return cleared;
        }

        void swapRowsAndColumns() {
            for (int row = 0; row < SIDE; row++) {
                for (int column = 0; column < row; column++) {
                    int kept = cells.get(row * SIDE + column);
                    cells.set(row * SIDE + column, cells.get(column * SIDE + row));
                    cells.set(column * SIDE + row, kept);
                }
            }
        }
    }

    /** Boards of before: a ring of those that can be undone, and behind it the images. */
    private static final class Past {
        private static final int LENGTH = CELLS + WORDS + 1;
        private final Row boards = new Row((UNDOABLE + IMAGES) * LENGTH);
        /** Where in the ring the next board goes. */
        private int next;
        /** How many can be undone. */
        private int depth;
        /** The set of images that were kept. */
        private int images;

        void note(Board board) {
            save(next, board);
            next = (next + 1) % UNDOABLE;
            depth = Math.min(depth + 1, UNDOABLE);
        }

        void stepBack(Board board) {
            next = (next + UNDOABLE - 1) % UNDOABLE;
            depth--;
            load(next, board);
        }

        void keepImage(int i, Board board) {
            save(UNDOABLE + i, board);
            images |= 1 << i;
            depth = 0;
        }

        void bringImage(int i, Board board) {
            load(UNDOABLE + i, board);
            depth = 0;
        }

        private void save(int number, Board board) {
            int start = number * LENGTH;
            for (int i = 0; i < CELLS; i++) {
                boards.set(start + i, board.cells.get(i));
            }
            for (int i = 0; i < WORDS; i++) {
                boards.set(start + CELLS + i, board.codes.get(i));
            }
            boards.set(start + CELLS + WORDS, board.words);
        }

        private void load(int number, Board board) {
            int start = number * LENGTH;
            for (int i = 0; i < CELLS; i++) {
                board.cells.set(i, boards.get(start + i));
            }
            for (int i = 0; i < WORDS; i++) {
                board.codes.set(i, boards.get(start + CELLS + i));
            }
            board.words = boards.get(start + CELLS + WORDS);
        }
    }

    /** The slots of a grid, and where they cross. */
    private static final class Slots {
        private final Row first = new Row(SLOTS);
        private final Row size = new Row(SLOTS);
        /** Of each slot: the set of those that it crosses. */
        private final Row crossed = new Row(SLOTS);
        /** Of slots a, b, at a * SLOTS + b: the place in a of the cell in common; NONE. */
        private final Row meeting = new Row(SLOTS * SLOTS);
        /** Of each cell: its slot across, down; NONE. */
        private final Row across = new Row(CELLS);
        private final Row down = new Row(CELLS);
        private int count;
        private int countAcross;
        private int crossings;

        void read(Board board) {
            count = 0;
            across.fill(NONE);
            down.fill(NONE);
            for (int row = 0; row < SIDE; row++) {
                readLine(board, row * SIDE, 1, across);
            }
            countAcross = count;
            for (int column = 0; column < SIDE; column++) {
                readLine(board, column, SIDE, down);
            }
            readCrossings();
        }

        private void readLine(Board board, int start, int step, Row slotOf) {
            int length = 0;
            for (int i = 0; i <= SIDE; i++) {
                if (i < SIDE && board.cells.get(start + i * step) != BLOCKED) {
                    length++;
                } else {
                    addSlot(start + (i - length) * step, length, step, slotOf);
                    length = 0;
                }
            }
        }

        private void addSlot(int firstCell, int length, int step, Row slotOf) {
            if (length < LEAST_SIZE || count >= SLOTS) {
                return;
            }
            first.set(count, firstCell);
            size.set(count, length);
            for (int i = 0; i < length; i++) {
                slotOf.set(firstCell + i * step, count);
            }
            count++;
        }

        private void readCrossings() {
            crossings = 0;
            crossed.fill(0);
            meeting.fill(NONE);
            for (int cell = 0; cell < CELLS; cell++) {
                int a = across.get(cell);
                int d = down.get(cell);
                if (a != NONE && d != NONE) {
                    crossings++;
                    crossed.set(a, crossed.get(a) | 1 << d);
                    crossed.set(d, crossed.get(d) | 1 << a);
                    meeting.set(a * SLOTS + d, placeOf(cell, a));
                    meeting.set(d * SLOTS + a, placeOf(cell, d));
                }
            }
        }

        boolean isDown(int slot) {
            return slot >= countAcross;
        }

        int cellAt(int slot, int place) {
            return first.get(slot) + place * (isDown(slot) ? SIDE : 1);
        }

        int placeOf(int cell, int slot) {
            int steps = cell - first.get(slot);
            return isDown(slot) ? steps / SIDE : steps;
        }

        /** The code of a slot's letters; 0: it is not full. Slots with like letters have like codes. */
        int codeIn(int slot, Board board) {
            int code = 0;
            for (int place = 0; place < size.get(slot); place++) {
                int letter = board.cells.get(cellAt(slot, place));
                if (letter < FIRST_LETTER) {
                    return 0;
                }
                code = code * CODE_BASE + letter - FIRST_LETTER + 1;
            }
            return code;
        }
    }

    /** The list as sets of words, so that a question about all of them is one step. */
    private static final class Index {
        /** Of each length: the words that have it. */
        private final Row sized = new Row(SIDE + 1);
        /** Of each place and letter: the words that have it there. */
        private final Row having = new Row(SIDE * LETTERS);
        private final Row letters = new Row(WORDS * SIDE);

        void read(Board board) {
            sized.fill(0);
            having.fill(0);
            for (int word = 0; word < board.words; word++) {
                readWord(word, board.codes.get(word));
            }
        }

        private void readWord(int word, int code) {
            int bit = 1 << word;
            int length = lengthOf(code);
            sized.set(length, sized.get(length) | bit);
            int rest = code;
            for (int place = length - 1; place >= 0; place--) {
                int letter = rest % CODE_BASE - 1;
                letters.set(word * SIDE + place, letter);
                having.set(place * LETTERS + letter, wordsHaving(place, letter) | bit);
                rest /= CODE_BASE;
            }
        }

        /** Letters count from 0 here. */
        int letterOf(int word, int place) {
            return letters.get(word * SIDE + place);
        }

        int wordsHaving(int place, int letter) {
            return having.get(place * LETTERS + letter);
        }
    }

    /** Which words fit each slot, and which are left to it. */
    private static final class Chances {
        private final Slots slots;
        private final Index index;
        private final Row fitting = new Row(SLOTS);
        private final Row left = new Row(SLOTS);

        Chances(Slots slots, Index index) {
            this.slots = slots;
            this.index = index;
        }

        void read(Board board) {
            for (int slot = 0; slot < slots.count; slot++) {
                int words = wordsThatFit(slot, board);
                fitting.set(slot, words);
                left.set(slot, words);
            }
            // Each round but the last takes a word from a slot.
            boolean fell = true;
            for (int round = 0; fell && round <= SLOTS * WORDS; round++) {
                fell = dropWords();
            }
        }

        private int wordsThatFit(int slot, Board board) {
            int words = index.sized.get(slots.size.get(slot));
            for (int place = 0; place < slots.size.get(slot); place++) {
                int letter = board.cells.get(slots.cellAt(slot, place));
                if (letter >= FIRST_LETTER) {
                    words &= index.wordsHaving(place, letter - FIRST_LETTER);
                }
            }
            return words;
        }

        private boolean dropWords() {
            boolean fell = false;
            for (int slot = 0; slot < slots.count; slot++) {
                int words = left.get(slot);
                for (int word = 0; word < WORDS; word++) {
                    if (contains(words, word) && !canBeCrossed(slot, word)) {
                        words &= ~(1 << word);
                        fell = true;
                    }
                }
                left.set(slot, words);
            }
            return fell;
        }

        private boolean canBeCrossed(int slot, int word) {
            for (int other = 0; other < slots.count; other++) {
                if (contains(slots.crossed.get(slot), other) && (left.get(other) & besides(slot, word, other)) == 0) {
                    return false;
                }
            }
            return true;
        }

        /** Words that another slot may have when this one has that word, for all that the two slots say. */
        int besides(int slot, int word, int other) {
            int others = ALL_WORDS & ~(1 << word);
            int place = slots.meeting.get(slot * SLOTS + other);
            if (place == NONE) {
                return others;
            }
            int otherPlace = slots.meeting.get(other * SLOTS + slot);
            int letter = index.letters.get(word * SIDE + place);
            return others & index.having.get(otherPlace * LETTERS + letter);
        }

        int slotsWith(int word, Row words) {
            int set = 0;
            for (int slot = 0; slot < slots.count; slot++) {
                if (contains(words.get(slot), word)) {
                    set |= 1 << slot;
                }
            }
            return set;
        }
    }

    /** Looks for fillings, of all slots or of some of them, slot by slot, the least word first. */
    private static final class Filler {
        private final Slots slots;
        private final Chances chances;
        /** The slots to be filled, the least first. */
        private final Row order = new Row(SLOTS);
        private int many;
        /** Of each depth, for each slot in that order: the words that it can have there yet. */
        private final Row choices = new Row(SLOTS * SLOTS);
        /** Of each depth: the word that its slot has. */
        private final Row chosen = new Row(SLOTS);

        Filler(Slots slots, Chances chances) {
            this.slots = slots;
            this.chances = chances;
        }

        /** A word that is not left to a slot is in no filling of all slots. */
        int fillings(int limit) {
            begin((1 << slots.count) - 1, chances.left);
            return ways(this, 0, limit);
        }

        int fillingsWith(int slot, int word, int limit) {
            begin((1 << slots.count) - 1, chances.left);
            choices.set(slot, choices.get(slot) & 1 << word);
            return ways(this, 0, limit);
        }

        /** Words that are not left may well stand in some slots alone: these begin with all that fit. */
        boolean canFill(int set) {
            begin(set, chances.fitting);
            return ways(this, 0, 1) > 0;
        }

        private void begin(int set, Row words) {
            many = 0;
            for (int slot = 0; slot < slots.count; slot++) {
                if (contains(set, slot)) {
                    order.set(many, slot);
                    choices.set(many, words.get(slot));
                    many++;
                }
            }
        }

        /** How many ways there are to fill the slots from this depth on, or the limit. */
        private static int ways(Filler filler, int depth, int limit) {
            if (depth >= filler.many || depth >= SLOTS) {
                return 1;
            }
            int words = filler.choices.get(depth * SLOTS + depth);
            int found = 0;
            for (int word = 0; word < WORDS && found < limit; word++) {
                if (contains(words, word) && filler.choose(depth, word)) {
                    found += ways(filler, depth + 1, limit - found);
                }
            }
            return found;
        }

        /** False, if a slot that comes later has no word then. */
        private boolean choose(int depth, int word) {
            int slot = order.get(depth);
            chosen.set(depth, word);
            for (int later = depth + 1; later < many; later++) {
                int words = choices.get(depth * SLOTS + later) & chances.besides(slot, word, order.get(later));
                if (words == 0) {
                    return false;
                }
                choices.set((depth + 1) * SLOTS + later, words);
            }
            return true;
        }
    }
}
