/** Promise by promise: ordinary inputs, the edges that the document names, and wrong inputs. */
public final class PromiseTest extends Checks {
    public static void main(String[] args) {
        newObject();
        block();
        open();
        letter();
        put();
        wipe();
        turn();
        add();
        strike();
        drift();
        undo();
        undoOfEachKind();
        toldOfTheGrid();
        toldOfLetters();
        hardest();
        fillings();
        knot();
        cell();
        slot();
        left();
        word();
        find();
        odds();
        with();
        keep();
        goBack();
        end();
    }

    private static void newObject() {
        about = "promise 1";
        CrossedWords x = new CrossedWords();
        dueGrid("new", x, OPEN);
        dueList("new", x);
        due("told(0)", x.told(0), 8);
        due("told(2)", x.told(2), 0);
        due("told(3)", x.told(3), 0);
        due("told(11)", x.told(11), 0);
        due("goBack(0)", x.goBack(0), NOT);
        due("goBack(1)", x.goBack(1), NOT);
        CrossedWords y = new CrossedWords();
        x.block(3);
        x.add(8);
        dueGrid("another new one", y, OPEN);
        dueList("another new one", y);
    }

    private static void block() {
        about = "promise 2";
        CrossedWords x = new CrossedWords();
        for (int cell : FAR) due("block(" + cell + ")", x.block(cell), UNKNOWN);
        due("told(11)", x.told(11), 0);
        x.letter(1, 98);
        due("block(1)", x.block(1), 8);
        due("block(1) again", x.block(1), NOT);
        due("told(11)", x.told(11), 2);
        due("slot(0, 0)", x.slot(0, 0), 2);
        due("slot(0, 1)", x.slot(0, 1), 2);
        due("block(2)", x.block(2), 7);
        due("slots have new numbers: slot(0, 0)", x.slot(0, 0), 4);
        dueGrid("block", x, ".##.............");
        x.open(1);
        due("its letter is gone", x.cell(1, 0), 0);
        due("block(15)", x.block(15), 8);
        due("block(0)", x.block(0), 7);
        CrossedWords none = grid(BLOCKED.substring(1) + ".");
        due("block(15), the last", none.block(15), 0);
        due("told(2)", none.told(2), 65535);
    }

    private static void open() {
        about = "promise 3";
        CrossedWords x = grid(BLOCKED);
        for (int cell : FAR) due("open(" + cell + ")", x.open(cell), UNKNOWN);
        due("open(0)", x.open(0), 0);
        due("open(0) again", x.open(0), NOT);
        due("open(2)", x.open(2), 0);
        due("open(1)", x.open(1), 1);
        due("slot(0, 1)", x.slot(0, 1), 3);
        due("open(15)", x.open(15), 1);
        due("open(11)", x.open(11), 2);
        due("slot(1, 0)", x.slot(1, 0), 11);
        due("slot(1, 2)", x.slot(1, 2), 1);
        due("open(4)", x.open(4), 3);
        due("a slot down gets its number by its column: slot(1, 0)", x.slot(1, 0), 0);
        dueGrid("open", x, "...#.######.###.");
        CrossedWords y = new CrossedWords();
        due("open(0) of a new one", y.open(0), NOT);
        due("told(11)", y.told(11), 0);
    }

    private static void letter() {
        about = "promise 4";
        CrossedWords x = grid("#...............");
        int before = x.told(11);
        for (int cell : FAR) {
            due("letter(" + cell + ", 97)", x.letter(cell, 97), UNKNOWN);
            due("letter(" + cell + ", 3)", x.letter(cell, 3), UNKNOWN);
        }
        for (int letter : new int[] {96, 103, 0, -2, 1, 353, Integer.MIN_VALUE, Integer.MAX_VALUE}) {
            due("letter(1, " + letter + ")", x.letter(1, letter), OUTSIDE);
            due("letter(0, " + letter + ")", x.letter(0, letter), OUTSIDE);
        }
        due("letter(0, 97)", x.letter(0, 97), NOT);
        due("letter(0, NONE)", x.letter(0, NONE), NOT);
        due("letter(1, NONE)", x.letter(1, NONE), NOT);
        due("told(11)", x.told(11), before);
        due("letter(1, 97)", x.letter(1, 97), NONE);
        due("letter(1, 97)", x.letter(1, 97), NOT);
        due("letter(1, 102)", x.letter(1, 102), 97);
        due("letter(15, 102)", x.letter(15, 102), NONE);
        dueGrid("letter", x, "#f.............f");
        due("letter(1, NONE)", x.letter(1, NONE), 102);
        due("letter(1, NONE)", x.letter(1, NONE), NOT);
        dueGrid("letter", x, "#..............f");
    }

    private static void put() {
        about = "promise 5";
        CrossedWords x = grid(SQUARE, "ab", "ac", "abc");
        int before = x.told(11);
        for (int far : FAR) {
            due("put(" + far + ", 0)", x.put(far, 0), UNKNOWN);
            due("put(0, " + far + ")", x.put(0, far), UNKNOWN);
        }
        due("put(4, 0)", x.put(4, 0), UNKNOWN);
        due("put(0, 3)", x.put(0, 3), UNKNOWN);
        due("put(4, 2)", x.put(4, 2), UNKNOWN);
        due("put(0, 2)", x.put(0, 2), NOT);
        due("told(11)", x.told(11), before);
        dueGrid("refused", x, SQUARE);
        due("put(0, 0)", x.put(0, 0), 2);
        due("put(0, 0), nothing new", x.put(0, 0), 0);
        due("put(2, 1)", x.put(2, 1), 1);
        dueGrid("put", x, "ab##c.##########");
        due("put(0, 1), over another letter", x.put(0, 1), 1);
        due("put(1, 0), over letters that it does not fit", x.put(1, 0), 2);
        dueGrid("put", x, "ac##ab##########");
        due("the words that fit are those of now: slot(0, 4)", x.slot(0, 4), 1);
        CrossedWords y = grid(OPEN, "abcd", "dcba");
        due("put(7, 0)", y.put(7, 0), 4);
        due("put(3, 1)", y.put(3, 1), 4);
        dueGrid("put", y, "...a...b...cdcba");
        due("a put that changes nothing can be undone", y.put(3, 1), 0);
        due("undo()", y.undo(), 4);
    }

    private static void wipe() {
        about = "promise 6";
        CrossedWords x = grid("b.#b...........f", "ab");
        due("wipe()", x.wipe(), 3);
        dueGrid("wipe", x, "..#.............");
        due("the words that fit are those of now: slot(0, 4)", x.slot(0, 4), 1);
        dueList("wipe", x, "ab");
        due("wipe() again", x.wipe(), 0);
        due("told(11)", x.told(11), 7);
    }

    private static void turn() {
        about = "promise 7";
        CrossedWords x = grid("a##bc#..d..#e##f", "ab");
        due("told(0)", x.told(0), 5);
        due("turn()", x.turn(), 5);
        dueGrid("turn", x, "acde##.##..#b.#f");
        due("slot(0, 1)", x.slot(0, 1), 4);
        dueList("turn", x, "ab");
        due("turn() again", x.turn(), 5);
        dueGrid("turn", x, "a##bc#..d..#e##f");
        due("turn() of a new one", new CrossedWords().turn(), 8);
        due("turn() of none", grid(BLOCKED).turn(), 0);
        CrossedWords corner = grid("...#.###########");
        due("turn() of a corner", corner.turn(), 2);
        due("slot(1, 1)", corner.slot(1, 1), 3);
    }

    private static void add() {
        about = "promise 8";
        CrossedWords x = new CrossedWords();
        int[] none = {7, 0, 1, -1, -8, 14, 21, 42, 49, 50, 56, 63, 343, 350, 392, 399, 406, 2401, 2402, 2744,
            Integer.MAX_VALUE, Integer.MIN_VALUE};
        for (int code : none) due("add(" + code + ")", x.add(code), OUTSIDE);
        int[] words = {8, 13, 15, 48, 57, 62, 64, 342, 400, 2400};
        for (int i = 0; i < words.length; i++) due("add(" + words[i] + ")", x.add(words[i]), i);
        due("add(48)", x.add(48), NOT);
        due("add(8)", x.add(8), NOT);
        for (int i = 10; i < 16; i++) due("add(" + (i + 400) + ")", x.add(i + 400), i == 13 ? OUTSIDE : i < 13 ? i : i - 1);
        due("add(401)", x.add(401), 15);
        due("told(1)", x.told(1), 16);
        due("add(402), no room", x.add(402), FULL);
        due("add(401), there, no room", x.add(401), NOT);
        due("add(14), no word, no room", x.add(14), OUTSIDE);
        due("told(1)", x.told(1), 16);
        due("strike(0)", x.strike(0), 15);
        due("add(402)", x.add(402), 15);
    }

    private static void strike() {
        about = "promise 9";
        CrossedWords x = grid(OPEN, "ab", "abc", "abcd", "cd");
        for (int word : FAR) due("strike(" + word + ")", x.strike(word), UNKNOWN);
        due("strike(4)", x.strike(4), UNKNOWN);
        due("told(11)", x.told(11), 4);
        due("strike(1)", x.strike(1), 3);
        dueList("strike", x, "ab", "abcd", "cd");
        due("strike(2)", x.strike(2), 2);
        dueList("strike", x, "ab", "abcd");
        due("strike(0)", x.strike(0), 1);
        due("strike(0)", x.strike(0), 0);
        due("strike(0)", x.strike(0), UNKNOWN);
        due("add(9), struck before", x.add(9), 0);
        CrossedWords y = grid("ab..............", "ab");
        y.strike(0);
        dueGrid("letters stay", y, "ab..............");
    }

    private static void drift() {
        about = "promise 10";
        CrossedWords x = new CrossedWords();
        int[][] bad = {{0, 1}, {17, 1}, {-1, 1}, {1, 0}, {1, -1}, {1, 1000000}, {0, 0}, {Integer.MAX_VALUE, 1},
            {1, Integer.MIN_VALUE}};
        for (int[] b : bad) due("drift(" + b[0] + ", " + b[1] + ")", x.drift(b[0], b[1]), OUTSIDE);
        due("told(11)", x.told(11), 0);
        // 7: 117649 (1 left by 3: three letters), 1977326743 (b), 621132276 (a), 452154665 (f).
        due("drift(1, 7)", x.drift(1, 7), 1);
        dueList("drift", x, "baf");
        x.block(0);
        due("the words that fit are those of now: slot(0, 4)", x.slot(0, 4), 1);
        x.strike(0);
        x.drift(1, 7);
        due("the words that fit are those of now: slot(0, 4)", x.slot(0, 4), 1);
        x.undo();
        x.undo();
        x.undo();
        due("drift(1, 7) again", x.drift(1, 7), 0);
        due("what adds nothing can be undone too", x.told(11), 2);
        due("drift(2, 7)", x.drift(2, 7), 1);
        due("drift(16, 999999)", x.drift(16, 999999), 14);
        due("drift(16, 1)", x.drift(16, 1), 0);
        due("told(1)", x.told(1), 16);
        due("undo()", x.undo(), 4);
        due("undo()", x.undo(), 3);
        due("told(1)", x.told(1), 2);
        CrossedWords y = new CrossedWords();
        due("drift(16, 999999)", y.drift(16, 999999), 16);
    }

    private static void undo() {
        about = "promise 11";
        CrossedWords x = new CrossedWords();
        due("undo()", x.undo(), NOT);
        for (int i = 0; i < 10; i++) x.block(i);
        due("told(11)", x.told(11), 10);
        x.block(10);
        due("told(11), the oldest is lost", x.told(11), 10);
        x.block(10);
        x.add(7);
        due("told(11), refused ones do not count", x.told(11), 10);
        for (int i = 9; i >= 0; i--) due("undo()", x.undo(), i);
        due("undo()", x.undo(), NOT);
        dueGrid("the oldest stays", x, "#...............");
        x.add(8);
        x.add(9);
        due("undo()", x.undo(), 1);
        due("add(10) instead", x.add(10), 1);
        due("undo()", x.undo(), 1);
        due("undo()", x.undo(), 0);
        dueList("undo", x);
        dueGrid("undo", x, "#...............");
        for (int round = 0; round < 3; round++) {
            for (int i = 0; i < 13; i++) x.turn();
            for (int i = 9; i >= 4; i--) due("undo() in round " + round, x.undo(), i);
        }
        due("told(11)", x.told(11), 4);
    }

    private static void undoOfEachKind() {
        CrossedWords x = grid("ab#.............", "ab", "abcd", "ba");
        for (int kind = 0; kind < 9; kind++) {
            int before = Math.min(x.told(11), 9);
            int[] answers = {kind == 0 ? x.block(0) : 0, kind == 1 ? x.open(2) : 0, kind == 2 ? x.letter(0, 102) : 0,
                kind == 3 ? x.put(0, 2) : 0, kind == 4 ? x.wipe() : 0, kind == 5 ? x.turn() : 0,
                kind == 6 ? x.add(10) : 0, kind == 7 ? x.strike(0) : 0, kind == 8 ? x.drift(16, 5) : 0};
            due("change " + kind + " is not refused", answers[kind] < -1 ? 1 : 0, 0);
            due("undo() of change " + kind, x.undo(), before);
            dueGrid("undo of change " + kind, x, "ab#.............");
            dueList("undo of change " + kind, x, "ab", "abcd", "ba");
            due("the slots are those of before: slot(0, 1)", x.slot(0, 1), 2);
            due("the words that fit are those of before: slot(0, 4)", x.slot(0, 4), 1);
        }
    }

    private static void toldOfTheGrid() {
        about = "promise 12";
        CrossedWords x = grid("a.#....#..#.#..f", "ab", "abc");
        for (int what : new int[] {-1, 12, 13, Integer.MAX_VALUE, Integer.MIN_VALUE}) due("told(" + what + ")", x.told(what), OUTSIDE);
        due("told(0)", x.told(0), 7);
        due("told(1)", x.told(1), 2);
        due("told(2)", x.told(2), 1 << 2 | 1 << 7 | 1 << 10 | 1 << 12);
        due("told(3)", x.told(3), 1 << 0 | 1 << 15);
        due("told(4)", x.told(4), 8);
        due("told(11)", x.told(11), 8);
        due("told(4) of a new one", new CrossedWords().told(4), 16);
        due("told(4) of a square", grid(SQUARE).told(4), 4);
        due("told(4) of four apart", grid(FOUR_APART).told(4), 0);
        due("told(0) of four apart", grid(FOUR_APART).told(0), 4);
        due("told(0) of none", grid(BLOCKED).told(0), 0);
        due("told(0) of cells alone", grid(".#.##.#..#.##.#.").told(0), 0);
    }

    private static void toldOfLetters() {
        due("told(6), one word alone", grid("ab##############", "ab").told(6), 0);
        due("told(6), no word", grid("ab##############", "ba").told(6), 1);
        CrossedWords x = grid("ab##ba##########", "ab");
        due("told(5)", x.told(5), 15);
        // ab, ba, ab, ba: two are no word, two stand in a lesser slot, slot 3 is both.
        due("told(6)", x.told(6), 4);
        x.add(code("ba"));
        due("told(6)", x.told(6), 2);
        x.letter(5, NONE);
        due("told(5)", x.told(5), 5);
        due("told(6)", x.told(6), 1);
        x.letter(0, 99);
        due("told(6)", x.told(6), 3);
        due("told(10)", x.told(10), 15);
        x.wipe();
        due("told(5)", x.told(5), 0);
        due("told(6)", x.told(6), 0);
        due("told(5) of one that is not full", grid("abc.############").told(5), 0);
    }

    private static void hardest() {
        due("told(7), none", grid(BLOCKED, "ab").told(7), NONE);
        due("told(7), all full", grid("ab##cd##########", "ab").told(7), NONE);
        due("told(7), the least of like ones", grid(FOUR_APART, "ab").told(7), 0);
        due("told(7), not the full one", grid("ab####....####..", "ab").told(7), 1);
        due("told(7), the fewest words", grid("..####...a####.c", "aa", "ca", "ac").told(7), 3);
        // 0 across 0 1; 1 across 8 9; 2 down 0 4 8, which crosses both.
        due("told(7), that crosses most", grid("..##.###..######").told(7), 2);
        // Besides these 3 down 11 15, with one word and no crossing.
        due("told(7), words ahead of crossings",
            grid("..##.###..#f###.", "ab", "ac", "bd", "be", "aab", "acb", "fa").told(7), 3);
        // 0 across 2 3, three fit; 1 across 8 9 and 2 down 8 12: five fit, three are left.
        due("told(7), words that are left, not those that fit",
            grid("##a.####..##.###", "ab", "ac", "ad", "ba", "cd").told(7), 1);
    }

    private static void fillings() {
        due("told(8), no slots", grid(BLOCKED).told(8), 1);
        due("told(8), no slots, words", grid(".#.##.#..#.##.#.", "ab").told(8), 1);
        due("told(8), no words", grid(CORNER).told(8), 0);
        due("told(8), a word twice", grid(CORNER, "ab").told(8), 0);
        due("told(8), two words", grid(CORNER, "ab", "ac").told(8), 2);
        due("told(8), unlike letters", grid(CORNER, "ab", "bc").told(8), 0);
        due("told(8), by hand", grid(".c##.###########", "ab", "ac", "ad").told(8), 2);
        due("told(8), apart, 10 words", grid(THREE_APART, pairs(10)).told(8), 720);
        due("told(8), apart, 11 words", grid(THREE_APART, pairs(11)).told(8), 990);
        due("told(8), apart, 12 words", grid(THREE_APART, pairs(12)).told(8), 999);
        due("told(8), apart, 16 words", grid(FOUR_APART, pairs(16)).told(8), 999);
        due("told(8), apart, 3 words for 4 slots", grid(FOUR_APART, pairs(3)).told(8), 0);
        due("told(8), full letters that are a word", grid("ab##.###########", "ab", "ac").told(8), 1);
        due("told(8), full letters that are none", grid("ad##.###########", "ab", "ac").told(8), 0);
        due("told(8), a large one", grid(OPEN, "abcd", "bcde", "cdfa", "defb", "abce", "abcf").told(8), 0);
        due("told(8), a large one that can be filled",
            grid(OPEN, "abcd", "efab", "cdef", "aeca", "bfdb", "caec", "dbfa", "abca").told(8), 2);
    }

    private static void knot() {
        due("told(9), no slots", grid(BLOCKED).told(9), 0);
        due("told(9), all can be filled", grid(CORNER, "ab", "ac").told(9), 0);
        due("told(9), one word for two", grid(CORNER, "ab").told(9), 3);
        due("told(9), no word for each", grid(CORNER).told(9), 1);
        due("told(9), the second has none", grid("..##.###d#######", "ab", "ac").told(9), 2);
        due("told(9), three words for four", grid(FOUR_APART, pairs(3)).told(9), 15);
        due("told(9), two words for four: the least set of three", grid(FOUR_APART, pairs(2)).told(9), 7);
        due("told(9), the others left aside", grid("..####..f.####f.", "ab", "cd", "fa").told(9), 12);
        due("told(9), six slots", grid("...#...#...#####", "abc").told(9), 3);
        due("told(0), seven slots", grid("...#...#...#....").told(0), 7);
        due("told(9), seven slots", grid("...#...#...#....").told(9), NONE);
        due("told(9), eight slots that can be filled",
            grid(OPEN, "abcd", "efab", "cdef", "aeca", "bfdb", "caec", "dbfa", "abca").told(9), NONE);
    }

    private static void cell() {
        about = "promise 13";
        CrossedWords x = grid("a.#....#..#.#..f", "ab", "ac", "afb");
        for (int cell : FAR) {
            due("cell(" + cell + ", 0)", x.cell(cell, 0), UNKNOWN);
            due("cell(" + cell + ", 9)", x.cell(cell, 9), UNKNOWN);
        }
        for (int what : new int[] {-1, 4, 5, Integer.MAX_VALUE, Integer.MIN_VALUE}) {
            due("cell(0, " + what + ")", x.cell(0, what), OUTSIDE);
            due("cell(2, " + what + ")", x.cell(2, what), OUTSIDE);
        }
        int[] across = {0, 0, NONE, NONE, 1, 1, 1, NONE, 2, 2, NONE, NONE, NONE, 3, 3, 3};
        int[] down = {4, 5, NONE, NONE, 4, 5, NONE, NONE, 4, 5, NONE, 6, NONE, 5, NONE, 6};
        CrossedWords y = grid("..#....#..#.#...");
        due("told(0)", y.told(0), 7);
        for (int cell = 0; cell < 16; cell++) {
            due("cell(" + cell + ", 1)", y.cell(cell, 1), across[cell]);
            due("cell(" + cell + ", 2)", y.cell(cell, 2), down[cell]);
        }
        due("cell(0, 0)", x.cell(0, 0), 97);
        due("cell(1, 0)", x.cell(1, 0), 0);
        due("cell(2, 0)", x.cell(2, 0), NONE);
        due("cell(2, 3)", x.cell(2, 3), 0);
        due("cell(3, 3), in no slot", x.cell(3, 3), 63);
        x.letter(3, 102);
        due("cell(3, 3), its letter", x.cell(3, 3), 32);
        CrossedWords one = grid("..##############", "ab", "cd", "abc");
        due("cell(0, 3), in one slot", one.cell(0, 3), 5);
        due("cell(1, 3), in one slot", one.cell(1, 3), 10);
        one.letter(0, 97);
        due("cell(1, 3)", one.cell(1, 3), 2);
        CrossedWords two = grid(CORNER, "ab", "ac", "bd", "cd");
        due("cell(0, 3), in each of two", two.cell(0, 3), 1);
        due("cell(1, 3)", two.cell(1, 3), 6);
        due("cell(4, 3)", two.cell(4, 3), 6);
        CrossedWords none = grid(CORNER, "ab");
        due("cell(0, 3), none left", none.cell(0, 3), 0);
    }

    private static void slot() {
        about = "promise 14";
        CrossedWords x = grid("..#....#..#.#...", "ab", "abc", "acb");
        for (int slot : new int[] {-1, 7, 8, 32, Integer.MAX_VALUE, Integer.MIN_VALUE}) {
            due("slot(" + slot + ", 0)", x.slot(slot, 0), UNKNOWN);
            due("slot(" + slot + ", 9)", x.slot(slot, 9), UNKNOWN);
        }
        for (int what : new int[] {-1, 8, 9, Integer.MAX_VALUE, Integer.MIN_VALUE}) due("slot(0, " + what + ")", x.slot(0, what), OUTSIDE);
        int[] first = {0, 4, 8, 13, 0, 1, 11};
        int[] size = {2, 3, 2, 3, 3, 4, 2};
        int[] crossed = {48, 48, 48, 96, 7, 15, 8};
        int[] fitting = {1, 2, 1, 2, 2, 0, 1};
        for (int slot = 0; slot < 7; slot++) {
            due("slot(" + slot + ", 0)", x.slot(slot, 0), first[slot]);
            due("slot(" + slot + ", 1)", x.slot(slot, 1), size[slot]);
            due("slot(" + slot + ", 2)", x.slot(slot, 2), slot >= 4 ? 1 : 0);
            due("slot(" + slot + ", 3)", x.slot(slot, 3), crossed[slot]);
            due("slot(" + slot + ", 4)", x.slot(slot, 4), fitting[slot]);
        }
        CrossedWords y = grid("abc.............", "abc", "abcd", "abce");
        due("slot(0, 4)", y.slot(0, 4), 2);
        due("slot(0, 6), not full", y.slot(0, 6), NONE);
        y.letter(3, 101);
        due("slot(0, 6)", y.slot(0, 6), 2);
        y.letter(3, 97);
        due("slot(0, 6), no word", y.slot(0, 6), NONE);
        CrossedWords z = grid(SQUARE, "bb", "cd", "ac", "bd", "ab");
        int[] filling = {2, 3, 4, 1};
        for (int slot = 0; slot < 4; slot++) due("slot(" + slot + ", 7)", z.slot(slot, 7), filling[slot]);
        z.strike(3);
        for (int slot = 0; slot < 4; slot++) due("slot(" + slot + ", 7), none", z.slot(slot, 7), NONE);
    }

    private static void left() {
        CrossedWords one = grid(CORNER, "ab");
        due("a word needs another to cross it: slot(0, 5)", one.slot(0, 5), 0);
        due("slot(1, 5)", one.slot(1, 5), 0);
        due("told(10)", one.told(10), 3);
        due("it fits for all that: slot(0, 4)", one.slot(0, 4), 1);
        one.add(code("ac"));
        due("slot(0, 5)", one.slot(0, 5), 3);
        due("told(10)", one.told(10), 0);
        // 0 across 0 1 2; 1 across 10 11; 2 down 0 4; 3 down 2 6 10. What falls at one end falls all along.
        CrossedWords chain = grid("...#.#.###..####", "abc", "aba", "af", "cdd", "ada", "aa");
        int[] words = {18, 36, 36, 18};
        for (int slot = 0; slot < 4; slot++) due("chain: slot(" + slot + ", 5)", chain.slot(slot, 5), words[slot]);
        due("chain: slot(0, 4)", chain.slot(0, 4), 4);
        due("chain: told(10)", chain.told(10), 0);
        chain.letter(11, 98);
        due("chain: told(10)", chain.told(10), 15);
        // 0 across 0 1 and 1 across 14 15 do not cross; 2 down 0 4 crosses slot 0.
        CrossedWords apart = grid("..##.#########..", "ab");
        due("what falls leaves slots apart alone: told(10)", apart.told(10), 5);
        due("slot(1, 5)", apart.slot(1, 5), 1);
    }

    private static void word() {
        about = "promise 15";
        CrossedWords x = grid("ab##..##########", "ab", "abc", "ac", "abcd");
        for (int word : FAR) {
            due("word(" + word + ", 0)", x.word(word, 0), UNKNOWN);
            due("word(" + word + ", 9)", x.word(word, 9), UNKNOWN);
        }
        due("word(4, 0)", x.word(4, 0), UNKNOWN);
        for (int what : new int[] {-1, 5, 6, Integer.MAX_VALUE, Integer.MIN_VALUE}) due("word(0, " + what + ")", x.word(0, what), OUTSIDE);
        int[][] due = {{9, 2, 3, 0, 0}, {66, 3, 0, 0, NONE}, {10, 2, 2, 0, NONE}, {466, 4, 0, 0, NONE}};
        for (int word = 0; word < 4; word++) {
            for (int what = 0; what < 5; what++) due("word(" + word + ", " + what + ")", x.word(word, what), due[word][what]);
        }
        x.add(code("cd"));
        x.add(code("bd"));
        int[] slots = {1, 0, 4, 0, 2, 8};
        for (int word = 0; word < 6; word++) due("word(" + word + ", 3)", x.word(word, 3), slots[word]);
        CrossedWords y = grid("##ab####ab######", "ab");
        due("word(0, 4), the first of two", y.word(0, 4), 0);
        y.letter(2, 99);
        due("word(0, 4), the second", y.word(0, 4), 1);
    }

    private static void find() {
        about = "promise 16";
        CrossedWords x = grid(OPEN, "ab", "ffff", "abc");
        for (int code : new int[] {7, 0, -1, 14, 49, 343, 399, 2401, Integer.MAX_VALUE, Integer.MIN_VALUE}) {
            due("find(" + code + ")", x.find(code), OUTSIDE);
        }
        due("find(9)", x.find(9), 0);
        due("find(2400)", x.find(2400), 1);
        due("find(66)", x.find(66), 2);
        due("find(8)", x.find(8), NONE);
        due("find(467)", x.find(467), NONE);
        x.strike(0);
        due("find(9), struck", x.find(9), NONE);
        due("find(66), a number less", x.find(66), 1);
    }

    private static void odds() {
        about = "promise 17";
        CrossedWords x = grid(SQUARE, "ab", "ac", "bd", "abc");
        for (int far : FAR) {
            due("odds(" + far + ", 0, 2, 1)", x.odds(far, 0, 2, 1), UNKNOWN);
            due("odds(0, " + far + ", 2, 1)", x.odds(0, far, 2, 1), UNKNOWN);
            due("odds(0, 0, " + far + ", 1)", x.odds(0, 0, far, 1), UNKNOWN);
            due("odds(0, 0, 2, " + far + ")", x.odds(0, 0, 2, far), UNKNOWN);
        }
        due("odds(0, 0, 0, 1), a slot twice", x.odds(0, 0, 0, 1), UNKNOWN);
        due("odds(0, 4, 1, 1), no word, no crossing", x.odds(0, 4, 1, 1), UNKNOWN);
        due("odds(0, 0, 1, 1), no crossing", x.odds(0, 0, 1, 1), NONE);
        due("odds(2, 0, 3, 0), no crossing", x.odds(2, 0, 3, 0), NONE);
        due("odds(0, 0, 2, 1)", x.odds(0, 0, 2, 1), 0);
        due("odds(2, 1, 0, 0)", x.odds(2, 1, 0, 0), 0);
        due("odds(0, 0, 2, 0), one word", x.odds(0, 0, 2, 0), 1);
        due("odds(0, 0, 2, 2), unlike letters", x.odds(0, 0, 2, 2), 1);
        due("odds(0, 0, 3, 2)", x.odds(0, 0, 3, 2), 0);
        due("odds(0, 3, 2, 0), unlike in size", x.odds(0, 3, 2, 0), 1);
        due("odds(0, 0, 2, 3), unlike in size", x.odds(0, 0, 2, 3), 1);
        x.letter(4, 98);
        due("odds(0, 0, 2, 1), the second does not fit", x.odds(0, 0, 2, 1), 1);
        due("odds(2, 1, 0, 0), the first does not fit", x.odds(2, 1, 0, 0), 1);
        due("odds(0, 1, 2, 0)", x.odds(0, 1, 2, 0), 0);
    }

    private static void with() {
        about = "promise 18";
        CrossedWords x = grid(CORNER, "ab", "ac", "bd", "abc", "ad");
        for (int far : FAR) {
            due("with(" + far + ", 0)", x.with(far, 0), UNKNOWN);
            due("with(0, " + far + ")", x.with(0, far), UNKNOWN);
        }
        due("with(2, 0)", x.with(2, 0), UNKNOWN);
        due("with(0, 5)", x.with(0, 5), UNKNOWN);
        due("with(0, 0)", x.with(0, 0), 2);
        due("with(1, 4)", x.with(1, 4), 2);
        due("with(0, 2)", x.with(0, 2), 0);
        due("with(0, 3), unlike in size", x.with(0, 3), 0);
        x.letter(1, 98);
        due("with(0, 0)", x.with(0, 0), 2);
        due("with(0, 1), does not fit", x.with(0, 1), 0);
        due("with(1, 1)", x.with(1, 1), 1);
        due("with(2, 9), apart, 11 words", grid(THREE_APART, pairs(11)).with(2, 9), 90);
        due("with(3, 15), apart, 16 words", grid(FOUR_APART, pairs(16)).with(3, 15), 999);
        due("with(1, 0), apart, 12 words", grid(FOUR_APART, pairs(12)).with(1, 0), 990);
    }

    private static void keep() {
        about = "promise 19";
        CrossedWords x = grid("a#..............", "ab", "cd");
        for (int i : new int[] {-1, 2, 3, Integer.MAX_VALUE, Integer.MIN_VALUE}) due("keep(" + i + ")", x.keep(i), UNKNOWN);
        due("told(11), refused", x.told(11), 4);
        due("keep(1)", x.keep(1), 2);
        due("told(11)", x.told(11), 0);
        due("undo()", x.undo(), NOT);
        dueGrid("keep changes nothing", x, "a#..............");
        dueList("keep changes nothing", x, "ab", "cd");
        due("goBack(0), not kept", x.goBack(0), NOT);
        x.strike(0);
        x.wipe();
        due("keep(0)", x.keep(0), 1);
        x.strike(0);
        due("keep(0) again", x.keep(0), 0);
        due("goBack(1)", x.goBack(1), 2);
        due("goBack(0), the later one", x.goBack(0), 0);
    }

    private static void goBack() {
        about = "promise 20";
        CrossedWords x = grid("a#..............", "ab", "cd");
        for (int i : new int[] {-1, 2, 3, Integer.MAX_VALUE, Integer.MIN_VALUE}) due("goBack(" + i + ")", x.goBack(i), UNKNOWN);
        due("goBack(0)", x.goBack(0), NOT);
        due("told(11), refused", x.told(11), 4);
        x.keep(0);
        x.block(2);
        x.open(1);
        x.letter(0, 98);
        x.strike(0);
        for (int i = 0; i < 12; i++) x.turn();
        x.add(57);
        x.letter(15, 97);
        due("goBack(1)", x.goBack(1), NOT);
        due("told(11), refused", x.told(11), 10);
        due("goBack(0)", x.goBack(0), 2);
        dueGrid("goBack", x, "a#..............");
        dueList("goBack", x, "ab", "cd");
        due("told(11)", x.told(11), 0);
        due("undo()", x.undo(), NOT);
        due("told(0)", x.told(0), 8);
        due("slot(0, 0)", x.slot(0, 0), 2);
        due("slot(0, 4)", x.slot(0, 4), 2);
        x.wipe();
        x.add(8);
        due("goBack(0) once more", x.goBack(0), 2);
        dueGrid("goBack once more", x, "a#..............");
        x.keep(1);
        x.block(15);
        x.undo();
        x.strike(1);
        x.keep(0);
        due("goBack(1)", x.goBack(1), 2);
        due("goBack(0)", x.goBack(0), 1);
        dueList("goBack", x, "ab");
    }
}
