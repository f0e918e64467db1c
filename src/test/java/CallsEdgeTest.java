import java.util.ArrayList;
import java.util.List;

/** Each sentence of 'Promise 1' to 'Promise 20' that names a boundary case has a test of its own here. */
public final class CallsEdgeTest extends Checks {
    private static final String[] EIGHT = {"abcd", "efab", "cdef", "aeca", "bfdb", "caec", "dbfa", "abca"};

    public static void main(String[] args) {
        newObject();
        blockLosesTheLetter();
        blockSlots();
        openSlots();
        letterNoMore();
        letterNot();
        putHadAnother();
        putUnknown();
        putUnlikeInSize();
        wipe();
        turnCells();
        turnSlots();
        addBounds();
        addThereOrFull();
        strikeBehind();
        strikeUnknown();
        driftBounds();
        driftAdded();
        undoNone();
        undoMore();
        toldBounds();
        toldLeastAndMost();
        cellBounds();
        cellLetter();
        cellSlots();
        slotBounds();
        slotFirstAndSize();
        slotWords();
        wordBounds();
        wordSlots();
        find();
        oddsUnknown();
        oddsNone();
        withUnknown();
        withFillings();
        keep();
        goBackNot();
        goBack();
        wordsOfNow();
        end();
    }

    private static void newObject() {
        about = "promise 1, 'All CELLS are OPEN, no LETTERS, no WORDS.'";
        CrossedWords x = new CrossedWords();
        dueGrid("new", x, OPEN);
        dueList("new", x);
        due("told(2)", x.told(2), 0);
        due("told(3)", x.told(3), 0);
        due("undo()", x.undo(), NOT);
        due("goBack(0)", x.goBack(0), NOT);
        due("goBack(1)", x.goBack(1), NOT);
        x.block(0);
        x.letter(1, 97);
        x.add(8);
        x.keep(0);
        CrossedWords y = new CrossedWords();
        dueGrid("a new one beside another", y, OPEN);
        dueList("a new one beside another", y);
        due("goBack(0) of a new one beside another", y.goBack(0), NOT);
    }

    private static void blockLosesTheLetter() {
        about = "promise 2, '(its LETTER is gone)'";
        for (int cell = 0; cell < 16; cell++) {
            CrossedWords x = grid("abcdefabcdefabcd");
            x.block(cell);
            due("told(3), cell " + cell, x.told(3), 65535 & ~(1 << cell));
            due("cell(" + cell + ", 0)", x.cell(cell, 0), NONE);
            x.open(cell);
            due("cell(" + cell + ", 0), open again", x.cell(cell, 0), 0);
            due("told(3), open again", x.told(3), 65535 & ~(1 << cell));
            due("letter(" + cell + ", NONE), it has none", x.letter(cell, NONE), NOT);
        }
    }

    private static void blockSlots() {
        about = "promise 2, 'how many SLOTS there are. UNKNOWN, NOT: it is.'";
        CrossedWords x = new CrossedWords();
        int[] slots = {8, 8, 7, 7, 7, 7, 6, 6, 5, 4, 2, 1, 1, 1, 0, 0};
        for (int cell = 0; cell < 16; cell++) {
            due("block(" + cell + ")", x.block(cell), slots[cell]);
            due("block(" + cell + "), it is", x.block(cell), NOT);
        }
        for (int cell : FAR) due("block(" + cell + ")", x.block(cell), UNKNOWN);
        due("told(2)", x.told(2), 65535);
    }

    private static void openSlots() {
        about = "promise 3, 'A CELL is OPEN: how many SLOTS there are. UNKNOWN, NOT: it is.'";
        CrossedWords x = grid(BLOCKED);
        int[] slots = {0, 1, 1, 1, 2, 4, 5, 6, 6, 7, 7, 7, 7, 8, 8, 8};
        for (int cell = 0; cell < 16; cell++) {
            due("open(" + cell + ")", x.open(cell), slots[cell]);
            due("open(" + cell + "), it is", x.open(cell), NOT);
        }
        due("told(2), all open", x.told(2), 0);
        due("told(0), all open", x.told(0), 8);
        for (int cell : FAR) due("open(" + cell + ")", x.open(cell), UNKNOWN);
        CrossedWords lettered = grid("a...............");
        due("open(0), it is, with a letter", lettered.open(0), NOT);
        due("cell(0, 0)", lettered.cell(0, 0), 97);
    }

    private static void letterNoMore() {
        about = "promise 4, 'A LETTER (NONE: no more) of a CELL: what it was (NONE).'";
        CrossedWords x = new CrossedWords();
        for (int cell = 0; cell < 16; cell += 15) {
            due("letter(" + cell + ", 97), the first", x.letter(cell, 97), NONE);
            due("letter(" + cell + ", 102), another", x.letter(cell, 102), 97);
            due("letter(" + cell + ", 97), another", x.letter(cell, 97), 102);
            due("told(3)", x.told(3), 1 << cell);
            due("letter(" + cell + ", NONE), no more", x.letter(cell, NONE), 97);
            due("told(3)", x.told(3), 0);
            due("cell(" + cell + ", 0)", x.cell(cell, 0), 0);
        }
    }

    private static void letterNot() {
        about = "promise 4, 'UNKNOWN, OUTSIDE, NOT: it is BLOCKED, or has that (or has none).'";
        CrossedWords x = grid("#a..............");
        for (int cell : FAR) {
            due("letter(" + cell + ", 97)", x.letter(cell, 97), UNKNOWN);
            due("letter(" + cell + ", NONE)", x.letter(cell, NONE), UNKNOWN);
            due("letter(" + cell + ", 96)", x.letter(cell, 96), UNKNOWN);
        }
        for (int letter : new int[] {96, 103, 0, 1, 26, -2, 65, 353, MAX, MIN}) {
            for (int cell = 0; cell < 3; cell++) due("letter(" + cell + ", " + letter + ")", x.letter(cell, letter), OUTSIDE);
        }
        for (int letter = 97; letter <= 102; letter++) due("letter(0, " + letter + "), BLOCKED", x.letter(0, letter), NOT);
        due("letter(0, NONE), BLOCKED", x.letter(0, NONE), NOT);
        due("letter(1, 97), it has that", x.letter(1, 97), NOT);
        due("letter(2, NONE), it has none", x.letter(2, NONE), NOT);
        dueGrid("refused", x, "#a..............");
    }

    private static void putHadAnother() {
        about = "promise 5, 'All CELLS of a SLOT have the letters of a WORD: how many of them had another one, or none.'";
        String[] before = {"....", "f...", "a...", "ab..", "fb.d", "abc.", "abcf", "abcd", "dcba", "ffff"};
        int[] due = {4, 4, 3, 2, 2, 1, 1, 0, 4, 4};
        for (int i = 0; i < before.length; i++) {
            CrossedWords across = grid(before[i] + "############", "abcd");
            due(before[i] + ", put(0, 0)", across.put(0, 0), due[i]);
            dueGrid(before[i] + ", put(0, 0)", across, "abcd############");
            CrossedWords down = grid("###" + before[i].charAt(0) + "###" + before[i].charAt(1) + "###" + before[i].charAt(2) + "###"
                + before[i].charAt(3), "abcd");
            due(before[i] + " down, put(0, 0)", down.put(0, 0), due[i]);
            dueGrid(before[i] + " down, put(0, 0)", down, "###a###b###c###d");
        }
        CrossedWords twice = grid(SQUARE, "aa");
        due("the first of two, put(0, 0)", twice.put(0, 0), 2);
        due("a word may be put in twice, put(1, 0)", twice.put(1, 0), 2);
        due("and crosses itself, put(3, 0)", twice.put(3, 0), 0);
        dueGrid("beside the slot nothing changes", twice, "aa##aa##########");
    }

    private static void putUnknown() {
        about = "promise 5, 'UNKNOWN'";
        CrossedWords x = grid(CORNER, "ab", "ac", "abc");
        for (int far : FAR) {
            due("put(" + far + ", 0)", x.put(far, 0), UNKNOWN);
            due("put(0, " + far + ")", x.put(0, far), UNKNOWN);
            due("put(" + far + ", " + far + ")", x.put(far, far), UNKNOWN);
        }
        due("put(2, 0), two slots", x.put(2, 0), UNKNOWN);
        due("put(0, 3), three words", x.put(0, 3), UNKNOWN);
        due("put(1, 1), the last slot", x.put(1, 1), 2);
        due("put(0, 0), no words", new CrossedWords().put(0, 0), UNKNOWN);
        due("put(0, 0), no slots", grid(BLOCKED, "ab").put(0, 0), UNKNOWN);
        due("put(8, 0), eight slots", grid(OPEN, "abcd").put(8, 0), UNKNOWN);
        due("put(3, 15), the last word", grid(FOUR_APART, pairs(16)).put(3, 15), 2);
        due("put(7, 0), the last of eight", grid(OPEN, "abcd").put(7, 0), 4);
    }

    private static void putUnlikeInSize() {
        about = "promise 5, 'NOT: unlike in SIZE.'";
        String[] rows = {"..##", "...#", "...."};
        for (int row = 0; row < 3; row++) {
            for (int word = 0; word < 3; word++) {
                CrossedWords x = grid(rows[row] + "############", "ab", "abc", "abcd");
                due(rows[row] + ", put(0, " + word + ")", x.put(0, word), row == word ? row + 2 : NOT);
                due(rows[row] + ", put(0, " + word + "), told(3)", x.told(3), row == word ? (1 << row + 2) - 1 : 0);
            }
        }
        due("unlike letters are well", grid("ff##############", "ab").put(0, 0), 2);
    }

    private static void wipe() {
        about = "promise 6, 'No CELL has a LETTER: how many had.'";
        due("none", new CrossedWords().wipe(), 0);
        due("none, all blocked", grid(BLOCKED).wipe(), 0);
        CrossedWords all = grid("abcdefabcdefabcd", "ab");
        due("all", all.wipe(), 16);
        dueGrid("all", all, OPEN);
        dueList("all", all, "ab");
        CrossedWords some = grid("#..............f");
        due("one", some.wipe(), 1);
        dueGrid("one, blocks stay", some, "#...............");
        due("again", some.wipe(), 0);
        due("undo()", some.undo(), 3);
        due("undo()", some.undo(), 2);
        dueGrid("undone", some, "#..............f");
    }

    private static void turnCells() {
        about = "promise 7, 'Rows become columns (CELL 4 a and b becomes 4 b and a)'";
        for (int a = 0; a < 4; a++) {
            for (int b = 0; b < 4; b++) {
                CrossedWords x = new CrossedWords();
                x.block(4 * a + b);
                x.turn();
                due("told(2), block " + (4 * a + b), x.told(2), 1 << (4 * b + a));
                CrossedWords y = new CrossedWords();
                y.letter(4 * a + b, 102);
                y.turn();
                due("told(3), letter " + (4 * a + b), y.told(3), 1 << (4 * b + a));
                due("cell, letter " + (4 * a + b), y.cell(4 * b + a, 0), 102);
            }
        }
        CrossedWords twice = grid("abcd#efa#b..##f.", "ab");
        twice.turn();
        dueGrid("once", twice, "a###beb#cf.fda..");
        twice.turn();
        dueGrid("twice", twice, "abcd#efa#b..##f.");
    }

    private static void turnSlots() {
        about = "promise 7, 'how many SLOTS there are'";
        due("turn(), eight", new CrossedWords().turn(), 8);
        due("turn(), none", grid(BLOCKED).turn(), 0);
        CrossedWords x = grid("....############", "abcd", "abc");
        due("turn(), one", x.turn(), 1);
        dueSlots("turn()", x, "| 0:4");
        due("cell(12, 2)", x.cell(12, 2), 0);
        due("cell(12, 1)", x.cell(12, 1), NONE);
        due("slot(0, 5)", x.slot(0, 5), 1);
        dueList("turn()", x, "abcd", "abc");
        due("turn() again", x.turn(), 1);
        dueSlots("turn() again", x, "0:4 |");
        CrossedWords y = grid("##..##.#########");
        dueSlots("ahead of turn()", y, "2:2 | 2:2");
        due("turn(), two", y.turn(), 2);
        dueSlots("turn()", y, "8:2 | 8:2");
    }

    private static void addBounds() {
        about = "promise 8, 'A WORD of CODE (8 .. 2400): its number. OUTSIDE (no WORD of 2 to 4 letters has that CODE, too)'";
        CrossedWords x = new CrossedWords();
        int[] outside = {7, 6, 1, 0, -1, -8, -2400, 2401, 2402, 2801, 4104, 65544, MAX, MIN};
        for (int code : outside) due("add(" + code + ")", x.add(code), OUTSIDE);
        int[] noWord = {14, 21, 42, 49, 50, 55, 56, 63, 70, 294, 336, 343, 344, 350, 391, 392, 399, 406, 686, 2058, 2394};
        for (int code : noWord) due("add(" + code + "), no word", x.add(code), OUTSIDE);
        due("told(1)", x.told(1), 0);
        due("add(8), the least", x.add(8), 0);
        due("add(2400), the greatest", x.add(2400), 1);
    }

    private static void addThereOrFull() {
        about = "promise 8, 'NOT: it is there; FULL (16).'";
        CrossedWords x = new CrossedWords();
        String[] words = pairs(17);
        for (int i = 0; i < 16; i++) {
            due("add, " + words[i], x.add(code(words[i])), i);
            due("add, " + words[i] + ", it is there", x.add(code(words[i])), NOT);
            due("add, " + words[0] + ", it is there", x.add(code(words[0])), NOT);
        }
        due("add, the 17th", x.add(code(words[16])), FULL);
        due("add(2400), the 17th", x.add(2400), FULL);
        due("add(8), there, though full", x.add(8), NOT);
        due("add(7), outside, though full", x.add(7), OUTSIDE);
        due("add(2401), outside, though full", x.add(2401), OUTSIDE);
        due("add(14), no word, though full", x.add(14), OUTSIDE);
        due("told(1)", x.told(1), 16);
        x.undo();
        due("undo(), add, the 17th", x.add(code(words[16])), 15);
    }

    private static void strikeBehind() {
        about = "promise 9, 'A WORD is no more (those behind have a number less): how many are left.'";
        String[] words = pairs(16);
        for (int struck = 0; struck < 16; struck++) {
            CrossedWords x = grid(OPEN, words);
            due("strike(" + struck + ")", x.strike(struck), 15);
            List<String> left = new ArrayList<>(List.of(words));
            left.remove(struck);
            dueList("strike(" + struck + ")", x, left.toArray(new String[0]));
            due("find, struck", x.find(code(words[struck])), NONE);
            due("add, struck before", x.add(code(words[struck])), 15);
        }
        CrossedWords all = grid("ab..............", "ab", "cd");
        due("strike(1), the last", all.strike(1), 1);
        due("strike(0), the only one", all.strike(0), 0);
        dueGrid("letters stay", all, "ab..............");
    }

    private static void strikeUnknown() {
        about = "promise 9, 'UNKNOWN.'";
        CrossedWords x = new CrossedWords();
        due("strike(0), none", x.strike(0), UNKNOWN);
        x.add(8);
        for (int word : FAR) due("strike(" + word + ")", x.strike(word), UNKNOWN);
        due("strike(1), one word", x.strike(1), UNKNOWN);
        due("told(1)", x.told(1), 1);
        due("strike(16), 16 words", grid(OPEN, pairs(16)).strike(16), UNKNOWN);
        due("strike(15), 16 words", grid(OPEN, pairs(16)).strike(15), 15);
    }

    private static void driftBounds() {
        about = "promise 10, 'n WORDS (1 .. 16) BY LOTS of a SEED (1 .. 999999)', 'OUTSIDE.'";
        CrossedWords x = new CrossedWords();
        for (int n : new int[] {0, -1, 17, 18, 32, MAX, MIN}) {
            due("drift(" + n + ", 1)", x.drift(n, 1), OUTSIDE);
            due("drift(" + n + ", 999999)", x.drift(n, 999999), OUTSIDE);
            due("drift(" + n + ", 0)", x.drift(n, 0), OUTSIDE);
        }
        for (int seed : new int[] {0, -1, 1000000, 1000001, 2147483646, MAX, MIN}) {
            due("drift(1, " + seed + ")", x.drift(1, seed), OUTSIDE);
            due("drift(16, " + seed + ")", x.drift(16, seed), OUTSIDE);
        }
        due("told(1)", x.told(1), 0);
        due("told(11)", x.told(11), 0);
        due("drift(1, 1)", x.drift(1, 1), 1);
        due("drift(1, 999999)", x.drift(1, 999999), 1);
        due("drift(16, 1)", new CrossedWords().drift(16, 1), 16);
        due("drift(16, 999999)", new CrossedWords().drift(16, 999999), 16);
    }

    private static void driftAdded() {
        about = "promise 10, 'how many were added'";
        // 1: 16807 (1 left by 3: three letters), 282475249 (b), 1622650073 (f), 984943658 (c).
        CrossedWords x = new CrossedWords();
        due("drift(1, 1)", x.drift(1, 1), 1);
        dueList("drift(1, 1)", x, "bfc");
        due("drift(1, 1), it is there", x.drift(1, 1), 0);
        dueList("drift(1, 1), it is there", x, "bfc");
        due("drift(2, 1), one is there", x.drift(2, 1), 1);
        CrossedWords full = grid(OPEN, pairs(16));
        due("drift(16, 1), no room", full.drift(16, 1), 0);
        dueList("drift(16, 1), no room", full, pairs(16));
        full.strike(0);
        due("drift(16, 1), room for one", full.drift(16, 1), 1);
        due("word(15, 0), the first drawn", full.word(15, 0), code("bfc"));
    }

    private static void undoNone() {
        about = "promise 11, 'NOT: none.'";
        CrossedWords x = new CrossedWords();
        due("undo(), new", x.undo(), NOT);
        x.block(16);
        due("undo(), all was refused", x.undo(), NOT);
        x.block(0);
        due("undo()", x.undo(), 0);
        due("undo(), undone", x.undo(), NOT);
        due("undo(), undone", x.undo(), NOT);
        dueGrid("undone", x, OPEN);
        x.block(0);
        x.keep(0);
        due("undo(), kept", x.undo(), NOT);
        x.block(1);
        x.goBack(0);
        due("undo(), gone back", x.undo(), NOT);
        dueGrid("gone back", x, "#...............");
    }

    private static void undoMore() {
        about = "promise 11, 'The latest is undone: how many more can be.'";
        CrossedWords x = new CrossedWords();
        for (int i = 0; i < 11; i++) x.block(i);
        for (int i = 9; i >= 0; i--) {
            due("undo()", x.undo(), i);
            due("told(2)", x.told(2), (1 << i + 1) - 1);
        }
        due("the oldest stays: undo()", x.undo(), NOT);
        due("the oldest stays: told(2)", x.told(2), 1);
        x.add(8);
        x.add(9);
        due("undo()", x.undo(), 1);
        due("what was undone does not come back: add(10)", x.add(10), 1);
        due("undo()", x.undo(), 1);
        due("undo()", x.undo(), 0);
        dueList("undo()", x);
    }

    private static void toldBounds() {
        about = "promise 12, 'told: .. 0 SLOTS .. 11 how many can be undone. OUTSIDE.'";
        CrossedWords x = new CrossedWords();
        for (int what : new int[] {-1, -2, 12, 13, 16, 32, MAX, MIN}) due("told(" + what + ")", x.told(what), OUTSIDE);
        int[] due = {8, 0, 0, 0, 16, 0, 0, 0, 0, NONE, 255, 0};
        for (int what = 0; what < 12; what++) due("told(" + what + ")", x.told(what), due[what]);
    }

    private static void toldLeastAndMost() {
        about = "promise 12, the least and the most of each";
        CrossedWords none = grid(BLOCKED);
        int[] least = {0, 0, 65535, 0, 0, 0, 0, NONE, 1, 0, 0, 10};
        for (int what = 0; what < 12; what++) due("all blocked, told(" + what + ")", none.told(what), least[what]);
        CrossedWords alike = grid("ffffffffffffffff", pairs(16));
        int[] most = {8, 16, 0, 65535, 16, 255, 15, NONE, 0, NONE, 255, 10};
        for (int what = 0; what < 12; what++) due("all full, told(" + what + ")", alike.told(what), most[what]);
        CrossedWords word = grid("....############", "abcd");
        int[] one = {1, 1, 65520, 0, 0, 0, 0, 0, 1, 0, 0, 10};
        for (int what = 0; what < 12; what++) due("one slot, told(" + what + ")", word.told(what), one[what]);
        CrossedWords eight = grid(OPEN, EIGHT);
        int[] filled = {8, 8, 0, 0, 16, 0, 0, 0, 2, NONE, 0, 8};
        for (int what = 0; what < 12; what++) due("eight slots, told(" + what + ")", eight.told(what), filled[what]);
        int[] numbers = {0, 1, 2, 7};
        for (int slot = 0; slot < 4; slot++) eight.put(slot, numbers[slot]);
        int[] put = {8, 8, 0, 65535, 16, 255, 0, NONE, 1, NONE, 0, 10};
        for (int what = 0; what < 12; what++) due("eight slots full, told(" + what + ")", eight.told(what), put[what]);
    }

    private static void cellBounds() {
        about = "promise 13, 'Of a CELL: what = 0 .. 3 .. UNKNOWN, OUTSIDE.'";
        CrossedWords x = grid("#...............");
        for (int cell : FAR) for (int what = -1; what <= 4; what++) due("cell(" + cell + ", " + what + ")", x.cell(cell, what), UNKNOWN);
        for (int what : new int[] {-1, -2, 4, 5, 16, 32, MAX, MIN}) {
            for (int cell = 0; cell < 16; cell += 5) due("cell(" + cell + ", " + what + ")", x.cell(cell, what), OUTSIDE);
        }
    }

    private static void cellLetter() {
        about = "promise 13, '0 its LETTER (0 none, NONE: BLOCKED)', '3 CAN BE (0: BLOCKED)'";
        CrossedWords x = grid("#.af##########.#", "ab");
        due("cell(0, 0), BLOCKED", x.cell(0, 0), NONE);
        due("cell(1, 0), none", x.cell(1, 0), 0);
        due("cell(2, 0)", x.cell(2, 0), 97);
        due("cell(3, 0)", x.cell(3, 0), 102);
        due("cell(0, 3), BLOCKED", x.cell(0, 3), 0);
        due("cell(15, 3), BLOCKED", x.cell(15, 3), 0);
        due("cell(14, 3), in no slot", x.cell(14, 3), 63);
        due("cell(1, 3), no word is left", x.cell(1, 3), 0);
    }

    private static void cellSlots() {
        about = "promise 13, '1, 2 its SLOT ACROSS, DOWN (NONE)'";
        CrossedWords x = grid("..#.#..##.#....#");
        // 0 across 0 1; 1 across 5 6; 2 across 12 13 14; 3 down 1 5 9 13.
        dueSlots("slots", x, "0:2 5:2 12:3 | 1:4");
        int[] across = {0, 0, NONE, NONE, NONE, 1, 1, NONE, NONE, NONE, NONE, NONE, 2, 2, 2, NONE};
        int[] down = {NONE, 3, NONE, NONE, NONE, 3, NONE, NONE, NONE, 3, NONE, NONE, NONE, 3, NONE, NONE};
        for (int cell = 0; cell < 16; cell++) {
            due("cell(" + cell + ", 1)", x.cell(cell, 1), across[cell]);
            due("cell(" + cell + ", 2)", x.cell(cell, 2), down[cell]);
        }
    }

    private static void slotBounds() {
        about = "promise 14, 'Of a SLOT: what = 0 .. 7 .. UNKNOWN, OUTSIDE.'";
        CrossedWords x = new CrossedWords();
        for (int slot : new int[] {-1, -2, 8, 9, 16, 32, 64, MAX, MIN}) {
            for (int what = -1; what <= 8; what++) due("slot(" + slot + ", " + what + ")", x.slot(slot, what), UNKNOWN);
        }
        for (int what : new int[] {-1, -2, 8, 9, 32, MAX, MIN}) {
            due("slot(0, " + what + ")", x.slot(0, what), OUTSIDE);
            due("slot(7, " + what + ")", x.slot(7, what), OUTSIDE);
        }
        CrossedWords none = grid(BLOCKED);
        for (int what = -1; what <= 8; what++) due("no slots, slot(0, " + what + ")", none.slot(0, what), UNKNOWN);
        CrossedWords one = grid("..##############");
        due("one slot, slot(0, 1)", one.slot(0, 1), 2);
        due("one slot, slot(1, 1)", one.slot(1, 1), UNKNOWN);
    }

    private static void slotFirstAndSize() {
        about = "promise 14, '0 its first CELL, 1 SIZE, 2 1 it is DOWN, 0 ACROSS, 3 SLOTS it CROSSES (a SET)'";
        CrossedWords x = new CrossedWords();
        dueSlots("new", x, "0:4 4:4 8:4 12:4 | 0:4 1:4 2:4 3:4");
        CrossedWords last = grid("###########.##..");
        dueSlots("the last cells", last, "14:2 | 11:2");
        due("slot(0, 3)", last.slot(0, 3), 2);
        due("slot(1, 3)", last.slot(1, 3), 1);
        CrossedWords down = grid("###.###.########");
        dueSlots("down alone", down, "| 3:2");
        due("slot(0, 3), none", down.slot(0, 3), 0);
    }

    private static void slotWords() {
        about = "promise 14, '4 how many WORDS FIT it, 5 WORDS LEFT (a SET), 6 the WORD that its LETTERS are (NONE), 7 its WORD in the FIRST FILLING (NONE: there is none)'";
        CrossedWords x = grid("..##############");
        int[] none = {0, 0, NONE, NONE};
        for (int what = 4; what < 8; what++) due("no words, slot(0, " + what + ")", x.slot(0, what), none[what - 4]);
        CrossedWords all = grid("..##############", pairs(16));
        int[] most = {16, 65535, NONE, 0};
        for (int what = 4; what < 8; what++) due("16 words, slot(0, " + what + ")", all.slot(0, what), most[what - 4]);
        CrossedWords full = grid("cd##############", pairs(16));
        int[] last = {1, 1 << 15, 15, 15};
        for (int what = 4; what < 8; what++) due("the last word, slot(0, " + what + ")", full.slot(0, what), last[what - 4]);
        CrossedWords other = grid("ff##############", pairs(16));
        for (int what = 4; what < 8; what++) due("no word, slot(0, " + what + ")", other.slot(0, what), none[what - 4]);
        due("not full, slot(0, 6)", grid("abc.############", "ab", "abc").slot(0, 6), NONE);
        due("left to cross it, slot(0, 4)", grid(CORNER, "ab").slot(0, 4), 1);
        due("left to cross it, slot(0, 5)", grid(CORNER, "ab").slot(0, 5), 0);
        CrossedWords twice = grid("ab######ab######", "cd", "ab");
        due("its letters, though elsewhere too, slot(0, 6)", twice.slot(0, 6), 1);
        due("its letters, though elsewhere too, slot(1, 6)", twice.slot(1, 6), 1);
        due("no word twice, slot(0, 7)", twice.slot(0, 7), NONE);
        CrossedWords filled = grid("..............c.", "abca", "dbfa", "caec", "bfdb", "aeca", "cdef", "efab", "abcd");
        int[] first = {7, 6, 5, 0, 4, 3, 2, 1};
        for (int slot = 0; slot < 8; slot++) due("eight slots, slot(" + slot + ", 7)", filled.slot(slot, 7), first[slot]);
    }

    private static void wordBounds() {
        about = "promise 15, 'Of a WORD: what = 0 CODE, 1 its length .. 4 .. UNKNOWN, OUTSIDE.'";
        CrossedWords x = grid(OPEN, pairs(16));
        for (int word : FAR) for (int what = -1; what <= 5; what++) due("word(" + word + ", " + what + ")", x.word(word, what), UNKNOWN);
        for (int what : new int[] {-1, -2, 5, 6, 32, MAX, MIN}) {
            due("word(0, " + what + ")", x.word(0, what), OUTSIDE);
            due("word(15, " + what + ")", x.word(15, what), OUTSIDE);
        }
        for (int what = -1; what <= 5; what++) due("no words, word(0, " + what + ")", new CrossedWords().word(0, what), UNKNOWN);
        CrossedWords edges = grid(OPEN, "aa", "ff", "aaa", "fff", "aaaa", "ffff");
        int[] codes = {8, 48, 57, 342, 400, 2400};
        for (int word = 0; word < 6; word++) {
            due("word(" + word + ", 0)", edges.word(word, 0), codes[word]);
            due("word(" + word + ", 1)", edges.word(word, 1), 2 + word / 2);
        }
        due("six words, word(6, 0)", edges.word(6, 0), UNKNOWN);
    }

    private static void wordSlots() {
        about = "promise 15, '2 how many SLOTS it FITS, 3 SLOTS to which it is LEFT (a SET), 4 the first SLOT whose LETTERS it is (NONE)'";
        CrossedWords x = grid(OPEN, "abcd", "abc");
        int[] all = {8, 0, NONE};
        int[] none = {0, 0, NONE};
        for (int what = 2; what < 5; what++) {
            due("alone, word(0, " + what + ")", x.word(0, what), all[what - 2]);
            due("too short, word(1, " + what + ")", x.word(1, what), none[what - 2]);
            due("no slots, word(0, " + what + ")", grid(BLOCKED, "abcd").word(0, what), none[what - 2]);
        }
        due("left to slots that cross none, word(0, 3)", grid(FOUR_APART, "ab").word(0, 3), 15);
        CrossedWords alike = grid("aaaaaaaaaaaaaaaa", "aaaa", "aaab");
        due("all alike, word(0, 2)", alike.word(0, 2), 8);
        due("all alike, word(0, 4)", alike.word(0, 4), 0);
        due("unlike, word(1, 2)", alike.word(1, 2), 0);
        due("unlike, word(1, 4)", alike.word(1, 4), NONE);
        alike.letter(15, 98);
        due("the last slots, word(1, 4)", alike.word(1, 4), 3);
        alike.letter(12, 98);
        due("the first down, word(1, 4)", alike.word(1, 4), 4);
        alike.letter(12, 99);
        due("the last slot alone, word(1, 4)", alike.word(1, 4), 7);
        due("the beginning of a slot is not its letters, word(0, 4)", grid("abc#############", "ab").word(0, 4), NONE);
        due("not full, word(0, 4)", grid("ab.#############", "ab").word(0, 4), NONE);
    }

    private static void find() {
        about = "promise 16, 'The WORD with a CODE; NONE. OUTSIDE (as add()).'";
        CrossedWords x = new CrossedWords();
        for (int code : new int[] {7, 1, 0, -1, -8, 14, 49, 56, 343, 399, 2401, 2801, MAX, MIN}) {
            due("find(" + code + ")", x.find(code), OUTSIDE);
        }
        due("find(8), no words", x.find(8), NONE);
        due("find(2400), no words", x.find(2400), NONE);
        CrossedWords full = grid(OPEN, pairs(16));
        for (int word = 0; word < 16; word++) due("find, word " + word, full.find(code(pairs(16)[word])), word);
        due("find(2400), full", full.find(2400), NONE);
        due("find(7), full", full.find(7), OUTSIDE);
        full.strike(15);
        due("find, struck", full.find(code(pairs(16)[15])), NONE);
        full.undo();
        due("find, undone", full.find(code(pairs(16)[15])), 15);
    }

    private static void oddsUnknown() {
        about = "promise 17, 'UNKNOWN (a SLOT twice; a WORD twice is well)'";
        CrossedWords x = grid(SQUARE, "ab", "ac", "bd");
        for (int far : FAR) {
            due("odds(" + far + ", 0, 2, 1)", x.odds(far, 0, 2, 1), UNKNOWN);
            due("odds(0, " + far + ", 2, 1)", x.odds(0, far, 2, 1), UNKNOWN);
            due("odds(0, 0, " + far + ", 1)", x.odds(0, 0, far, 1), UNKNOWN);
            due("odds(0, 0, 2, " + far + ")", x.odds(0, 0, 2, far), UNKNOWN);
        }
        due("odds(4, 0, 2, 1), four slots", x.odds(4, 0, 2, 1), UNKNOWN);
        due("odds(0, 3, 2, 1), three words", x.odds(0, 3, 2, 1), UNKNOWN);
        due("odds(0, 0, 4, 1), four slots", x.odds(0, 0, 4, 1), UNKNOWN);
        due("odds(0, 0, 2, 3), three words", x.odds(0, 0, 2, 3), UNKNOWN);
        for (int slot = 0; slot < 4; slot++) due("a SLOT twice: " + slot, x.odds(slot, 0, slot, 1), UNKNOWN);
        due("both twice", x.odds(0, 0, 0, 0), UNKNOWN);
        due("a WORD twice", x.odds(0, 0, 2, 0), 1);
        due("a WORD twice, no crossing", x.odds(0, 0, 1, 0), NONE);
        due("no words", grid(SQUARE).odds(0, 0, 2, 0), UNKNOWN);
        due("no slots", grid(BLOCKED, "ab", "ac").odds(0, 0, 1, 1), UNKNOWN);
    }

    private static void oddsNone() {
        about = "promise 17, 'NONE: they do not CROSS.'";
        CrossedWords x = grid(SQUARE, "ab", "ac", "abc");
        for (int slot = 0; slot < 4; slot++) {
            for (int other = 0; other < 4; other++) {
                if (slot == other) continue;
                boolean cross = slot < 2 != other < 2;
                due("odds(" + slot + ", 2, " + other + ", 2)", x.odds(slot, 2, other, 2), cross ? 1 : NONE);
            }
        }
        // 0 across 0 1; 1 down 8 12.
        CrossedWords apart = grid("..######.###.###", "ab", "ac");
        due("across and down", apart.odds(0, 0, 1, 1), NONE);
        due("unknown goes ahead", apart.odds(0, 0, 1, 2), UNKNOWN);
        CrossedWords open = grid(OPEN, EIGHT);
        due("the last words and slots", open.odds(3, 7, 7, 6), 0);
        due("the last words and slots, the other way round", open.odds(7, 6, 3, 7), 0);
        due("the last words exchanged", open.odds(3, 6, 7, 7), 0);
        due("the first letter and the last", open.odds(3, 1, 4, 0), 1);
    }

    private static void withUnknown() {
        about = "promise 18, 'UNKNOWN.'";
        CrossedWords x = grid(CORNER, "ab", "ac");
        for (int far : FAR) {
            due("with(" + far + ", 0)", x.with(far, 0), UNKNOWN);
            due("with(0, " + far + ")", x.with(0, far), UNKNOWN);
        }
        due("with(2, 0), two slots", x.with(2, 0), UNKNOWN);
        due("with(0, 2), two words", x.with(0, 2), UNKNOWN);
        due("with(0, 0), no words", grid(CORNER).with(0, 0), UNKNOWN);
        due("with(0, 0), no slots", grid(BLOCKED, "ab").with(0, 0), UNKNOWN);
        due("with(8, 0), eight slots", grid(OPEN, "ab").with(8, 0), UNKNOWN);
        due("with(7, 0), eight slots", grid(OPEN, "ab").with(7, 0), 0);
    }

    private static void withFillings() {
        about = "promise 18, 'FILLINGS (999 at most) in which a SLOT has a WORD.'";
        CrossedWords x = grid(CORNER, "ab", "ac", "bc", "abc");
        due("with(0, 0)", x.with(0, 0), 1);
        due("with(1, 1)", x.with(1, 1), 1);
        due("none, with(0, 2)", x.with(0, 2), 0);
        due("unlike in size, with(0, 3)", x.with(0, 3), 0);
        due("does not fit, with(0, 0)", grid(".c##.###########", "ab", "ac").with(0, 0), 0);
        due("one slot, with(0, 15)", grid("..##############", pairs(16)).with(0, 15), 1);
        due("11 * 10 * 9", grid(FOUR_APART, pairs(12)).with(3, 0), 990);
        due("12 * 11 * 10", grid(FOUR_APART, pairs(13)).with(3, 0), 999);
        due("15 * 14 * 13", grid(FOUR_APART, pairs(16)).with(3, 15), 999);
        due("3 words for 4", grid(FOUR_APART, pairs(3)).with(0, 0), 0);
        CrossedWords parts = grid(THREE_APART, pairs(11));
        for (int slot = 0; slot < 3; slot++) for (int word = 0; word < 11; word++) due("10 * 9", parts.with(slot, word), 90);
        CrossedWords eight = grid(OPEN, EIGHT);
        int[][] stand = {{0, 3}, {1, 4}, {2, 5}, {7, 6}, {3, 0}, {4, 1}, {5, 2}, {6, 7}};
        for (int slot = 0; slot < 8; slot++) {
            for (int word = 0; word < 8; word++) {
                boolean is = word == stand[slot][0] || word == stand[slot][1];
                due("eight slots, with(" + slot + ", " + word + ")", eight.with(slot, word), is ? 1 : 0);
            }
        }
    }

    private static void keep() {
        about = "promise 19, 'IMAGE i becomes what is so (nothing can be undone then): how many WORDS. UNKNOWN.'";
        CrossedWords x = new CrossedWords();
        due("keep(0), no words", x.keep(0), 0);
        due("keep(1), no words", x.keep(1), 0);
        x.block(5);
        for (int i : new int[] {-1, -2, 2, 3, 10, 12, 32, 33, MAX, MIN}) due("keep(" + i + ")", x.keep(i), UNKNOWN);
        due("told(11), refused", x.told(11), 1);
        x.drift(16, 7);
        due("keep(0), 16 words", x.keep(0), 16);
        due("told(11)", x.told(11), 0);
        due("undo()", x.undo(), NOT);
        x.wipe();
        due("keep(0) once more", x.keep(0), 16);
        due("told(11)", x.told(11), 0);
        due("the other image stays, goBack(1)", x.goBack(1), 0);
        dueGrid("the other image stays", x, OPEN);
        due("the new image is kept, goBack(0)", x.goBack(0), 16);
        dueGrid("the new image is kept", x, ".....#..........");
        x.strike(15);
        due("a change behind keep() can be undone", x.undo(), 0);
        due("but not what was ahead of it", x.undo(), NOT);
        due("told(1)", x.told(1), 16);
    }

    private static void goBackNot() {
        about = "promise 20, 'UNKNOWN, NOT: it was not kept.'";
        CrossedWords x = grid("a#..............", "ab");
        for (int i : new int[] {-1, -2, 2, 3, 10, 12, 32, 33, MAX, MIN}) due("goBack(" + i + ")", x.goBack(i), UNKNOWN);
        due("goBack(0)", x.goBack(0), NOT);
        due("goBack(1)", x.goBack(1), NOT);
        due("told(11), refused", x.told(11), 3);
        x.keep(1);
        due("goBack(0), the other was kept", x.goBack(0), NOT);
        due("goBack(1)", x.goBack(1), 1);
        due("goBack(0), still", x.goBack(0), NOT);
        dueGrid("refused", x, "a#..............");
        CrossedWords y = grid(OPEN, "ab");
        y.keep(0);
        due("goBack(1), the other was kept", y.goBack(1), NOT);
        due("goBack(0)", y.goBack(0), 1);
    }

    private static void goBack() {
        about = "promise 20, 'What is so becomes IMAGE i (nothing can be undone then): how many WORDS.'";
        CrossedWords x = new CrossedWords();
        x.keep(0);
        for (int cell = 0; cell < 16; cell++) x.block(cell);
        x.drift(16, 3);
        due("told(11)", x.told(11), 10);
        due("goBack(0), no words", x.goBack(0), 0);
        due("told(11)", x.told(11), 0);
        due("undo()", x.undo(), NOT);
        dueGrid("goBack(0)", x, OPEN);
        dueList("goBack(0)", x);
        dueSlots("goBack(0)", x, "0:4 4:4 8:4 12:4 | 0:4 1:4 2:4 3:4");
        x.drift(16, 3);
        x.keep(1);
        x.goBack(0);
        due("goBack(1), 16 words", x.goBack(1), 16);
        due("goBack(1), once more", x.goBack(1), 16);
        due("goBack(0)", x.goBack(0), 0);
        x.block(0);
        due("a change behind goBack() can be undone", x.undo(), 0);
        due("but not goBack()", x.undo(), NOT);
        dueGrid("undone", x, OPEN);
    }

    private static void wordsOfNow() {
        about = "promises 2 to 11 and 20, the WORDS that FIT and are LEFT are those of now, behind each change";
        CrossedWords x = grid("..##############", "ab", "cd");
        due("at first: slot(0, 5)", x.slot(0, 5), 3);
        x.letter(0, 97);
        due("letter(0, 97): slot(0, 5)", x.slot(0, 5), 1);
        x.letter(0, 99);
        due("letter(0, 99): slot(0, 5)", x.slot(0, 5), 2);
        x.letter(0, 102);
        due("letter(0, 102): slot(0, 5)", x.slot(0, 5), 0);
        x.letter(0, NONE);
        due("letter(0, NONE): slot(0, 5)", x.slot(0, 5), 3);
        x.put(0, 1);
        due("put(0, 1): slot(0, 5)", x.slot(0, 5), 2);
        x.wipe();
        due("wipe(): slot(0, 5)", x.slot(0, 5), 3);
        x.undo();
        due("undo(): slot(0, 5)", x.slot(0, 5), 2);
        x.strike(0);
        due("strike(0), the other has its number now: slot(0, 5)", x.slot(0, 5), 1);
        x.letter(0, 97);
        due("strike(0), no word begins with a now: slot(0, 5)", x.slot(0, 5), 0);
        x.undo();
        x.undo();
        x.letter(0, NONE);
        x.letter(1, NONE);
        // 3: 50421 (0 left by 3: two letters), 847425747 (d), 572982925 (b).
        x.drift(1, 3);
        due("drift(1, 3): slot(0, 5)", x.slot(0, 5), 7);
        due("drift(1, 3): cell(0, 3)", x.cell(0, 3), 1 | 4 | 8);
        x.keep(0);
        x.block(1);
        due("block(1), no slot: cell(0, 3)", x.cell(0, 3), 63);
        x.open(1);
        due("open(1): cell(0, 3)", x.cell(0, 3), 1 | 4 | 8);
        x.open(2);
        due("open(2), too long: slot(0, 5)", x.slot(0, 5), 0);
        x.goBack(0);
        due("goBack(0): slot(0, 5)", x.slot(0, 5), 7);
        x.turn();
        due("turn(): cell(4, 3)", x.cell(4, 3), 2 | 8);
    }
}
