import java.math.BigInteger;
import java.util.ArrayList;
import java.util.List;

/** Each sentence of the document's 'Terms' that names a boundary case has a test of its own here. */
public final class TermsEdgeTest extends Checks {
    public static void main(String[] args) {
        calls512();
        numbersFrom0();
        sets();
        constants();
        cells();
        letters();
        lines();
        noWrapAround();
        numberedAnew();
        fewerSlots();
        crossings();
        lengths();
        sixteenWords();
        orderOfTheList();
        codes();
        fits();
        leftAgainAndAgain();
        leftToCross();
        canBe();
        canBeInNoSlot();
        hardest();
        hardestOfLikeOnes();
        noWordTwice();
        first();
        fillings();
        knot();
        knotOfLikeOnes();
        knotOfSix();
        odds();
        wrong();
        lots();
        room();
        undone();
        undoneKinds();
        images();
        end();
    }

    private static void calls512() {
        about = "'An object is used for at most 512 calls after it has been made'";
        CrossedWords x = new CrossedWords();
        x.keep(1);
        for (int call = 2; call <= 509; call++) {
            if (call % 2 == 0) due("call " + call + ", letter(15, 102)", x.letter(15, 102), NONE);
            else due("call " + call + ", letter(15, NONE)", x.letter(15, NONE), 102);
        }
        due("call 510, told(11)", x.told(11), 10);
        due("call 511, undo()", x.undo(), 9);
        due("call 512, goBack(1)", x.goBack(1), 0);
    }

    private static void numbersFrom0() {
        about = "'What has a number has it from 0 on, as it comes.'";
        CrossedWords x = new CrossedWords();
        due("add(9), the first word", x.add(9), 0);
        due("word(0, 0)", x.word(0, 0), 9);
        due("cell(0, 1), the first slot", x.cell(0, 1), 0);
        due("slot(0, 0), the first cell", x.slot(0, 0), 0);
        due("keep(0), the first image", x.keep(0), 1);
        due("goBack(0)", x.goBack(0), 1);
        due("cell(-1, 0)", x.cell(-1, 0), UNKNOWN);
        due("slot(-1, 0)", x.slot(-1, 0), UNKNOWN);
        due("word(-1, 0)", x.word(-1, 0), UNKNOWN);
        due("keep(-1)", x.keep(-1), UNKNOWN);
        due("goBack(-1)", x.goBack(-1), UNKNOWN);
    }

    private static void sets() {
        about = "'A SET is a whole number, bit k for k.'";
        for (int cell = 0; cell < 16; cell++) {
            CrossedWords x = new CrossedWords();
            x.block(cell);
            due("told(2), cell " + cell, x.told(2), 1 << cell);
            x.open(cell);
            x.letter(cell, 97);
            due("told(3), cell " + cell, x.told(3), 1 << cell);
        }
        CrossedWords full = grid("aaaaaaaaaaaaaaaa");
        due("told(3), all cells", full.told(3), 65535);
        due("told(5), all slots", full.told(5), 255);
        due("told(10), all slots", full.told(10), 255);
        due("told(2), all cells", grid(BLOCKED).told(2), 65535);
        // The slots down are 4 .. 7, each of them alone full.
        for (int column = 0; column < 4; column++) {
            CrossedWords x = new CrossedWords();
            for (int row = 0; row < 4; row++) x.letter(4 * row + column, 97);
            due("told(5), column " + column, x.told(5), 1 << (4 + column));
        }
        CrossedWords list = grid("..##############", pairs(16));
        due("slot(0, 5), 16 words", list.slot(0, 5), 65535);
        for (int word = 0; word < 16; word++) {
            CrossedWords x = grid("" + (char) ('a' + word / 6) + (char) ('a' + word % 6) + "##############", pairs(16));
            due("slot(0, 5), word " + word, x.slot(0, 5), 1 << word);
        }
        due("slot(7, 3)", new CrossedWords().slot(7, 3), 15);
        due("slot(0, 3)", new CrossedWords().slot(0, 3), 240);
        CrossedWords all = grid(OPEN, "abcd", "efab", "cdef", "aeca", "bfdb", "caec", "dbfa", "abca");
        due("word(6, 3), the last slots across and down", all.word(6, 3), 1 << 3 | 1 << 7);
        due("word(0, 3), the first slots across and down", all.word(0, 3), 1 << 0 | 1 << 4);
    }

    private static void constants() {
        about = "'NONE is -1.', 'They are far below all that is counted: -1000000001 and on.'";
        due("NONE", CrossedWords.NONE, -1);
        due("UNKNOWN", CrossedWords.UNKNOWN, -1000000001);
        due("OUTSIDE", CrossedWords.OUTSIDE, -1000000002);
        due("NOT", CrossedWords.NOT, -1000000003);
        due("FULL", CrossedWords.FULL, -1000000004);
    }

    private static void cells() {
        about = "'4 rows of 4 CELLS, numbered row by row, 0 .. 15', '(all OPEN at first)'";
        CrossedWords x = new CrossedWords();
        for (int cell = 0; cell < 16; cell++) {
            due("cell(" + cell + ", 0)", x.cell(cell, 0), 0);
            due("cell(" + cell + ", 1)", x.cell(cell, 1), cell / 4);
            due("cell(" + cell + ", 2)", x.cell(cell, 2), 4 + cell % 4);
            due("open(" + cell + "), it is", x.open(cell), NOT);
        }
        for (int cell : FAR) {
            due("cell(" + cell + ", 0)", x.cell(cell, 0), UNKNOWN);
            due("block(" + cell + ")", x.block(cell), UNKNOWN);
            due("open(" + cell + ")", x.open(cell), UNKNOWN);
            due("letter(" + cell + ", 97)", x.letter(cell, 97), UNKNOWN);
        }
    }

    private static void letters() {
        about = "'an OPEN one may have a LETTER (97 .. 102)'";
        CrossedWords x = new CrossedWords();
        for (int letter = 90; letter <= 110; letter++) {
            boolean is = letter >= 97 && letter <= 102;
            due("letter(5, " + letter + ")", x.letter(5, letter), !is ? OUTSIDE : letter == 97 ? NONE : letter - 1);
            due("cell(5, 0)", x.cell(5, 0), letter < 97 ? 0 : Math.min(letter, 102));
        }
        CrossedWords blocked = grid("#...............");
        due("letter(0, 97), a BLOCKED one", blocked.letter(0, 97), NOT);
        due("cell(0, 0)", blocked.cell(0, 0), NONE);
    }

    /** Each line of the grid by itself, with each way to open its cells. */
    private static void lines() {
        about = "'each row of 2 or more OPEN CELLS side by side, as far as it goes'";
        String[] slots = {"", "", "", "0+2", "", "", "1+2", "0+3", "", "", "", "0+2", "2+2", "2+2", "1+3", "0+4"};
        for (int line = 0; line < 8; line++) {
            int start = line < 4 ? 4 * line : line - 4;
            int step = line < 4 ? 1 : 4;
            for (int open = 0; open < 16; open++) {
                StringBuilder cells = new StringBuilder(BLOCKED);
                for (int i = 0; i < 4; i++) if ((open >> i & 1) == 1) cells.setCharAt(start + i * step, '.');
                String what = "grid " + cells;
                CrossedWords x = grid(cells.toString());
                int place = slots[open].isEmpty() ? 4 : slots[open].charAt(0) - '0';
                int size = slots[open].isEmpty() ? 0 : slots[open].charAt(2) - '0';
                String slot = start + place * step + ":" + size;
                dueSlots(what, x, size == 0 ? "|" : line < 4 ? slot + " |" : "| " + slot);
                for (int i = 0; i < 4; i++) {
                    int cell = start + i * step;
                    int inSlot = i >= place && i < place + size ? 0 : NONE;
                    due(what + ", cell(" + cell + ", 1)", x.cell(cell, 1), line < 4 ? inSlot : NONE);
                    due(what + ", cell(" + cell + ", 2)", x.cell(cell, 2), line < 4 ? NONE : inSlot);
                }
            }
        }
    }

    private static void noWrapAround() {
        about = "'side by side': the end of a row and the start of the next are not";
        for (int cell = 3; cell < 15; cell += 4) {
            CrossedWords x = grid(BLOCKED);
            x.open(cell);
            due("open(" + (cell + 1) + ") beside " + cell, x.open(cell + 1), 0);
        }
        for (int column = 0; column < 3; column++) {
            CrossedWords x = grid(BLOCKED);
            x.open(12 + column);
            due("open(" + (column + 1) + ") beside " + (12 + column), x.open(column + 1), 0);
        }
        CrossedWords corners = grid(".##.########.##.");
        due("the corners: told(0)", corners.told(0), 0);
        due("two rows that touch by a corner alone: told(0)", grid("..####..########").told(0), 2);
    }

    private static void numberedAnew() {
        about = "'numbered so, anew whenever a CELL is BLOCKED or OPENED'";
        CrossedWords x = new CrossedWords();
        dueSlots("new", x, "0:4 4:4 8:4 12:4 | 0:4 1:4 2:4 3:4");
        x.block(1);
        dueSlots("block(1)", x, "2:2 4:4 8:4 12:4 | 0:4 5:3 2:4 3:4");
        x.block(2);
        dueSlots("block(2)", x, "4:4 8:4 12:4 | 0:4 5:3 6:3 3:4");
        x.block(15);
        dueSlots("block(15)", x, "4:4 8:4 12:3 | 0:4 5:3 6:3 3:3");
        x.open(2);
        dueSlots("open(2)", x, "2:2 4:4 8:4 12:3 | 0:4 5:3 2:4 3:3");
        x.open(1);
        dueSlots("open(1)", x, "0:4 4:4 8:4 12:3 | 0:4 1:4 2:4 3:3");
        x.block(9);
        dueSlots("block(9), in the midst", x, "0:4 4:4 10:2 12:3 | 0:4 1:2 2:4 3:3");
        x.block(5);
        dueSlots("block(5), a column falls to single cells", x, "0:4 6:2 10:2 12:3 | 0:4 2:4 3:3");
    }

    private static void fewerSlots() {
        about = "'numbered so, anew': nothing speaks of a SLOT that is no more";
        CrossedWords x = grid("aaaaaaaaaaaaaaaa", "aaaa", "aa");
        x.block(1);
        x.block(2);
        dueSlots("block(2)", x, "4:4 8:4 12:4 | 0:4 5:3 6:3 3:4");
        due("told(5)", x.told(5), 127);
        due("told(6), two are no word, five have letters of a lesser one", x.told(6), 7);
        due("told(7)", x.told(7), NONE);
        due("told(10)", x.told(10), 127);
        due("word(0, 2)", x.word(0, 2), 5);
        CrossedWords y = grid("###a###b###a###b", "ab");
        y.keep(0);
        y.block(3);
        y.block(7);
        y.open(0);
        y.open(1);
        dueSlots("two slots", y, "0:2 | 11:2");
        due("two slots, word(0, 2)", y.word(0, 2), 2);
        due("two slots, word(0, 4)", y.word(0, 4), 1);
        y.goBack(0);
        dueSlots("one slot", y, "| 3:4");
        int[] due = {1, 1, 30583, 34952, 0, 1, 1, NONE, 0, 1, 1, 0};
        for (int what = 0; what < 12; what++) due("one slot, told(" + what + ")", y.told(what), due[what]);
        due("one slot, word(0, 2)", y.word(0, 2), 0);
        due("one slot, word(0, 3)", y.word(0, 3), 0);
        due("one slot, word(0, 4)", y.word(0, 4), NONE);
    }

    private static void crossings() {
        about = "'CROSS: two SLOTS that have a CELL in common'";
        CrossedWords x = new CrossedWords();
        for (int slot = 0; slot < 8; slot++) due("slot(" + slot + ", 3)", x.slot(slot, 3), slot < 4 ? 240 : 15);
        due("told(4)", x.told(4), 16);
        CrossedWords corner = grid("##########.###..");
        // 0 across 14 15; 1 down 10 14: the cell in common is the first of one, the last of the other.
        due("told(4)", corner.told(4), 1);
        due("slot(0, 3)", corner.slot(0, 3), 2);
        due("slot(1, 3)", corner.slot(1, 3), 1);
        // 0 across 0 1; 1 across 12 13; 2 down 3 7 11: their lines meet, they do not.
        CrossedWords apart = grid("..#.###.###...##");
        due("told(0), none in common", apart.told(0), 3);
        due("told(4), none in common", apart.told(4), 0);
        for (int slot = 0; slot < 3; slot++) due("slot(" + slot + ", 3), none in common", apart.slot(slot, 3), 0);
    }

    private static void lengths() {
        about = "'WORDS of 2 to 4 letters (97 .. 102)'";
        CrossedWords x = new CrossedWords();
        int[] edges = {8, 48, 57, 342, 400, 2400};
        for (int i = 0; i < 6; i++) {
            due("add(" + edges[i] + ")", x.add(edges[i]), i);
            due("word(" + i + ", 1)", x.word(i, 1), 2 + i / 2);
        }
        for (int code = 0; code <= 7; code++) due("add(" + code + "), a letter alone", x.add(code), OUTSIDE);
        due("add, aaaaa", x.add(code("aaaaa")), OUTSIDE);
        due("add, ffffff", x.add(code("ffffff")), OUTSIDE);
        due("add, ag", x.add(14), OUTSIDE);
        due("told(1)", x.told(1), 6);
    }

    private static void sixteenWords() {
        about = "'16 at most (none at first)'";
        CrossedWords x = new CrossedWords();
        due("told(1)", x.told(1), 0);
        due("word(0, 0)", x.word(0, 0), UNKNOWN);
        String[] words = pairs(17);
        for (int i = 0; i < 16; i++) due("add, " + words[i], x.add(code(words[i])), i);
        due("add, the 17th", x.add(code(words[16])), FULL);
        due("told(1)", x.told(1), 16);
        due("word(15, 0)", x.word(15, 0), code(words[15]));
        due("word(16, 0)", x.word(16, 0), UNKNOWN);
        due("strike(15)", x.strike(15), 15);
        due("add, the 17th, there is room", x.add(code(words[16])), 15);
    }

    private static void orderOfTheList() {
        about = "'in the order in which they were added; none twice'";
        CrossedWords x = grid(OPEN, "ff", "aa", "abcd", "bbb");
        dueList("as added", x, "ff", "aa", "abcd", "bbb");
        for (String word : new String[] {"ff", "aa", "abcd", "bbb"}) due("add, " + word, x.add(code(word)), NOT);
        x.strike(0);
        due("add, ff, behind the others", x.add(code("ff")), 3);
        dueList("as added", x, "aa", "abcd", "bbb", "ff");
    }

    private static void codes() {
        about = "'CODE of a WORD: 0, then for each letter 7 times as much, and the letter less 96.'";
        int words = 0;
        for (int code = -60; code <= 20000; code++) {
            String digits = Integer.toString(Math.max(code, 0), 7);
            boolean is = digits.length() >= 2 && digits.length() <= 4 && digits.indexOf('0') < 0;
            CrossedWords x = new CrossedWords();
            due("find(" + code + ")", x.find(code), is ? NONE : OUTSIDE);
            due("add(" + code + ")", x.add(code), is ? 0 : OUTSIDE);
            if (!is) continue;
            words++;
            due("word(0, 0)", x.word(0, 0), code);
            due("word(0, 1)", x.word(0, 1), digits.length());
            x.block(12);
            x.block(8);
            if (digits.length() == 2) x.block(13);
            // Slot 0 has four cells now, slot 3 three or two.
            int slot = digits.length() == 4 ? 0 : 3;
            due("put(" + slot + ", 0), code " + code, x.put(slot, 0), digits.length());
            for (int i = 0; i < digits.length(); i++) {
                due("code " + code + ", letter " + i, x.cell(x.slot(slot, 0) + i, 0), digits.charAt(i) - '0' + 96);
            }
        }
        due("how many codes are words'", words, 36 + 216 + 1296);
    }

    private static void fits() {
        about = "'FITS: a WORD and a SLOT: like in SIZE, and with each LETTER that its CELLS have.'";
        String[] rows = {"..##", ".#..", "...#", "#...", "...."};
        int[] sizes = {2, 2, 3, 3, 4};
        for (int i = 0; i < 5; i++) {
            CrossedWords x = grid(rows[i] + "############", "ab", "abc", "abcd");
            due(rows[i] + ", slot(0, 4)", x.slot(0, 4), 1);
            for (int word = 0; word < 3; word++) {
                due(rows[i] + ", word(" + word + ", 2)", x.word(word, 2), sizes[i] == word + 2 ? 1 : 0);
            }
        }
        String[] told = {"....", "a...", "...d", "abcd", "f...", "...f", "abcf", ".f..", "..f.", "abc."};
        int[] due = {1, 1, 1, 1, 0, 0, 0, 0, 0, 1};
        for (int i = 0; i < told.length; i++) due(told[i] + ", slot(0, 4)", grid(told[i] + "############", "abcd").slot(0, 4), due[i]);
        due("a letter beside the slot does not count", grid("ab#f############", "ab").slot(0, 4), 1);
        due("the letter of a slot that crosses counts", grid("f.##.###########", "ab", "fb").slot(1, 4), 1);
    }

    private static void leftAgainAndAgain() {
        about = "'again and again, till none falls away'";
        // Slot by slot, from the first or from the last, 13 rounds are needed till none falls away.
        CrossedWords x = grid(SIX, "bde", "aee", "cbf", "aaa", "aed", "ebc", "acc", "ccb", "ecb", "dbf", "faf", "cda", "ffc", "cca", "cba");
        int words = 0;
        for (int slot = 0; slot < 6; slot++) words += Integer.bitCount(x.slot(slot, 5));
        due("how many are left to all", words, 12);
        due("told(10)", x.told(10), 0);
        // And 15 here, till none is left.
        CrossedWords y = grid(OPEN, "baba", "ecdc", "eeee", "ebaa", "ccab", "abbc", "decb", "dcde", "bded", "bdbb", "aebe", "bebd", "cdee", "aede");
        for (int slot = 0; slot < 8; slot++) {
            due("slot(" + slot + ", 4)", y.slot(slot, 4), 14);
            due("slot(" + slot + ", 5)", y.slot(slot, 5), 0);
        }
        due("told(10)", y.told(10), 255);
        // And 25 here, the most that was found.
        CrossedWords z = grid(OPEN, "bbfa", "ffec", "edce", "cfef", "dede", "dddd", "cbfa", "dbdd", "ddbb", "aaac", "bdbb", "eaef",
            "fccc", "abcc", "bbad", "eebe");
        for (int slot = 0; slot < 8; slot++) due("25 rounds, slot(" + slot + ", 5)", z.slot(slot, 5), 0);
        due("25 rounds, told(10)", z.told(10), 255);
        for (int cell = 0; cell < 16; cell++) due("25 rounds, cell(" + cell + ", 3)", z.cell(cell, 3), 0);
    }

    private static void leftToCross() {
        about = "'if for some SLOT that it CROSSES none is LEFT that has the same letter in the CELL in common (and is another WORD)'";
        CrossedWords one = grid(CORNER, "ab");
        due("one word alone: slot(0, 5)", one.slot(0, 5), 0);
        due("one word alone: slot(1, 5)", one.slot(1, 5), 0);
        CrossedWords two = grid(CORNER, "ab", "ac");
        due("another word: slot(0, 5)", two.slot(0, 5), 3);
        due("another word: slot(1, 5)", two.slot(1, 5), 3);
        CrossedWords unlike = grid(CORNER, "ab", "ac", "bc");
        due("unlike letters: slot(0, 5)", unlike.slot(0, 5), 3);
        due("slots that cross none keep what fits: slot(0, 5)", grid(FOUR_APART, "ab").slot(0, 5), 1);
        due("slots that cross none keep what fits: told(10)", grid(FOUR_APART, "ab").told(10), 0);
        due("no words: told(10)", new CrossedWords().told(10), 255);
        due("no slots: told(10)", grid(BLOCKED, "ab").told(10), 0);
        // 0 across 0 1; 1 down 0 4 8: one of three letters, crossed at its first.
        CrossedWords sizes = grid("..##.###.#######", "ab", "acc", "bcc");
        due("unlike in size: slot(0, 5)", sizes.slot(0, 5), 1);
        due("unlike in size: slot(1, 5)", sizes.slot(1, 5), 2);
        // One neighbour is enough: 0 across 0 1 crosses 2 down 0 4 and 3 down 1 5; no word is like b. .
        due("some slot: slot(0, 5)", grid("..##..##########", "ab", "ac", "ad").slot(0, 5), 0);
    }

    private static void canBe() {
        about = "'letters (a SET, bit 0 for 97) that WORDS LEFT to its SLOTS have there, in each of its SLOTS'";
        CrossedWords line = grid("..##############", "af", "bf", "fa");
        due("cell(0, 3)", line.cell(0, 3), 1 | 2 | 32);
        due("cell(1, 3)", line.cell(1, 3), 1 | 32);
        // b. and d. are left to one slot each, a. to both.
        CrossedWords each = grid("..##.###.#######", "ab", "bc", "acc", "dcc");
        due("in each of two: cell(0, 3)", each.cell(0, 3), 1);
        due("in one alone: cell(1, 3)", each.cell(1, 3), 2);
        due("in one alone: cell(8, 3)", each.cell(8, 3), 4);
        due("six letters, none behind f: cell(0, 3)", grid(CORNER, "ba", "bc").cell(0, 3), 2);
        due("six letters, none ahead of a: cell(5, 3)", grid("#.##...##.######", "fab", "fac").cell(5, 3), 1);
        due("no word is left: cell(0, 3)", grid("a###.###########", "bb").cell(0, 3), 0);
        due("it has a letter, but no word is left", grid("ab##############", "ba").cell(1, 3), 0);
        due("it has a letter, and a word is left", grid("ab##############", "ab").cell(1, 3), 2);
        due("no words at all", new CrossedWords().cell(15, 3), 0);
        due("BLOCKED", grid("#...............").cell(0, 3), 0);
    }

    private static void canBeInNoSlot() {
        about = "'of a CELL in no SLOT: its LETTER, or all six'";
        CrossedWords x = grid(BLOCKED, "ab");
        x.open(15);
        due("cell(15, 3)", x.cell(15, 3), 63);
        for (int letter = 97; letter <= 102; letter++) {
            x.letter(15, letter);
            due("cell(15, 3), letter " + letter, x.cell(15, 3), 1 << (letter - 97));
        }
        x.letter(15, NONE);
        due("cell(15, 3), no more", x.cell(15, 3), 63);
        x.open(14);
        due("cell(15, 3), in a slot", x.cell(15, 3), 2);
    }

    private static void hardest() {
        about = "'HARDEST: of SLOTS that are not FULL (some CELL has no LETTER) that with the fewest WORDS LEFT'";
        due("no slots: told(7)", grid(BLOCKED).told(7), NONE);
        due("all full: told(7)", grid("aaaaaaaaaaaaaaaa").told(7), NONE);
        due("the last cell has none: told(7)", grid("aaaaaaaaaaaaaaa.").told(7), 3);
        due("the full one has none left, but is full: told(7)", grid("ff####....######", "ab", "ac").told(7), 1);
        due("none left is fewest: told(7)", grid("..####..f.######", "ab", "ac").told(7), 2);
        due("one is fewer than two: told(7)", grid("..####...c######", "ab", "ac").told(7), 2);
        due("the last of four: told(7)", grid("..####....####.c", "ab", "ac").told(7), 3);
        // 0 across 2 3, three fit and are left; 1 across 8 9 and 2 down 8 12: five fit, three are left.
        due("left, not those that fit: told(7)", grid("##a.####..##.###", "ab", "ac", "ad", "ba", "cd").told(7), 1);
        // 0 across 0 1 and 2 down 0 4, that cross: three fit, two are left; 1 across 10 11: two fit and are left.
        due("left, not those that fit, ahead: told(7)", grid("..##.#####a.####", "ab", "ac", "bd").told(7), 0);
    }

    private static void hardestOfLikeOnes() {
        about = "'of like ones the one that CROSSES most, of like ones the least; NONE'";
        // 0 across 0 1; 1 across 8 9; 2 down 0 4 8.
        due("that crosses most: told(7)", grid("..##.###..######").told(7), 2);
        // 0 across 0 1 2; 1 down 0 4; 2 down 2 6.
        due("that crosses most, the first: told(7)", grid("...#.#.#########").told(7), 0);
        due("like ones: told(7)", grid(SQUARE).told(7), 0);
        due("like ones, the first full: told(7)", grid("aa##..##########").told(7), 1);
        due("like ones, the one across full: told(7)", grid("aa##.###########").told(7), 1);
        // 0 across 0 1 crosses none and has two words, 1 across 8 9 and 2 down 8 12 cross and have two each.
        due("fewer words go ahead of more crossings: told(7)", grid("..######..##.###", "ab", "ac").told(7), 1);
        due("a word less goes ahead: told(7)", grid(".c######..##.###", "ab", "ac").told(7), 0);
    }

    private static void noWordTwice() {
        about = "'FILLING: a WORD for each SLOT that FITS it, no WORD twice, with like letters in CELLS in common'";
        due("no slots: told(8)", grid(BLOCKED, "ab").told(8), 1);
        due("no words: told(8)", grid("..##############").told(8), 0);
        due("one slot, one word: told(8)", grid("..##############", "ab").told(8), 1);
        due("one slot, a word too long: told(8)", grid("..##############", "abc").told(8), 0);
        due("two apart, one word: told(8)", grid("..######..######", "ab").told(8), 0);
        due("two apart, two words: told(8)", grid("..######..######", "ab", "cd").told(8), 2);
        due("two that cross, unlike letters: told(8)", grid(CORNER, "ab", "cd").told(8), 0);
        due("two that cross, like letters: told(8)", grid(CORNER, "ab", "ad").told(8), 2);
        due("a slot full of no word: told(8)", grid("ff######..######", "ab", "cd").told(8), 0);
        due("a slot full of a word: told(8)", grid("cd######..######", "ab", "cd").told(8), 1);
        due("two slots full of one word: told(8)", grid("ab######ab######", "ab", "cd").told(8), 0);
    }

    private static void first() {
        about = "'The FIRST: SLOT by SLOT the least WORD.'";
        dueFirst("in order", grid(FOUR_APART, pairs(4)), 0, 1, 2, 3);
        dueFirst("of 16", grid(FOUR_APART, pairs(16)), 0, 1, 2, 3);
        dueFirst("the last can have word 0 alone", grid("..####....####.a", "aa", "ab", "ac", "ad"), 1, 2, 3, 0);
        dueFirst("the first can have the last alone", grid(".d####....####..", "aa", "ab", "ac", "ad"), 3, 0, 1, 2);
        dueFirst("the least word leads nowhere", grid(CORNER, "bd", "ab", "ac"), 1, 2);
        dueFirst("there is none", grid(FOUR_APART, pairs(3)), NONE, NONE, NONE, NONE);
        dueFirst("all is full", grid("ab##cd##########", "bd", "cd", "ac", "ab"), 3, 1, 2, 0);
        // abc, def, cba can be filled across with adc, beb, cfa down, and the other way round.
        dueFirst("six slots", grid(SIX, "cfa", "cba", "beb", "def", "adc", "abc"), 4, 2, 0, 5, 3, 1);
        dueFirst("six slots, told by hand", grid(".b.#...#...#####", "cfa", "cba", "beb", "def", "adc", "abc"), 5, 3, 1, 4, 2, 0);
    }

    private static void dueFirst(String what, CrossedWords x, int... words) {
        for (int slot = 0; slot < words.length; slot++) due(what + ": slot(" + slot + ", 7)", x.slot(slot, 7), words[slot]);
    }

    private static void fillings() {
        about = "'FILLINGS: how many, 999 at most'";
        due("11 * 10 * 9", grid(THREE_APART, pairs(11)).told(8), 990);
        // 0 across 0 1; 1 across 6 7; 2 across 8 9; 3 across 14 15; 4 down 0 4 8.
        String five = "..##.#....####..";
        due("999", grid(five.substring(0, 15) + "e", "aa", "ab", "ae", "ba", "bb", "bd", "be", "bf", "cc", "cd", "ce", "dc",
            "aab", "abb", "bac").told(8), 999);
        due("1000", grid(five, "ab", "ac", "ad", "bc", "bf", "ca", "ce", "aaa", "aab", "aac", "baa", "bba", "caa", "cba", "cca",
            "cac").told(8), 999);
        due("1001", grid("a.####.de.####..", "ad", "ac", "ca", "dd", "ec", "eb", "ea", "cd", "aa", "ae", "bd", "ee", "ed", "da").told(8), 999);
        due("12 * 11 * 10", grid(THREE_APART, pairs(12)).told(8), 999);
        due("16 * 15 * 14 * 13", grid(FOUR_APART, pairs(16)).told(8), 999);
        due("none", grid(FOUR_APART, pairs(3)).told(8), 0);
        due("as many as words", grid("..##############", pairs(16)).told(8), 16);
    }

    private static void knot() {
        about = "'KNOT: the fewest SLOTS that could not be filled so by themselves (the others left aside; no WORD twice)', '0: all can be filled'";
        due("no slots: told(9)", grid(BLOCKED).told(9), 0);
        due("one slot, one word: told(9)", grid("..##############", "ab").told(9), 0);
        due("one slot, no word: told(9)", grid("..##############").told(9), 1);
        due("the others left aside: told(9)", grid(CORNER, "ab", "bc").told(9), 3);
        due("no word twice: told(9)", grid("..######..######", "ab").told(9), 3);
        due("one is fewer than two: told(9)", grid("..####..f.######", "ab").told(9), 4);
        due("two are fewer than three: told(9)", grid("..####f...####f.", "fa", "ab").told(9), 10);
        due("three words for four: told(9)", grid(FOUR_APART, pairs(3)).told(9), 15);
        due("four words for four: told(9)", grid(FOUR_APART, pairs(4)).told(9), 0);
    }

    private static void knotOfLikeOnes() {
        about = "'of like ones the least number (a SET)'";
        due("the first of all: told(9)", grid(FOUR_APART).told(9), 1);
        due("the second of three: told(9)", grid("..####f.f.####f.", "ab").told(9), 2);
        due("two of four: told(9)", grid(FOUR_APART, "ab").told(9), 3);
        due("three of four: told(9)", grid(FOUR_APART, "ab", "cd").told(9), 7);
        // {0, 3} is 9, {1, 2} is 6.
        due("6 is less than 9: told(9)", grid("a.####b.b.####a.", "ab", "bb").told(9), 6);
    }

    private static void knotOfSix() {
        about = "'(For 6 SLOTS at most, else NONE.)'";
        due("six, all of them: told(9)", grid(SIX, "aaa", "bab", "bbb", "baa", "bba").told(9), 63);
        due("six, all but the last: told(9)", grid(SIX, "aaa", "aba", "bbb", "baa", "aab").told(9), 31);
        due("six in two squares: told(9)", grid("..##..####..##.#", "ba", "ac", "bb", "ca", "dd", "cb", "cc").told(9), 63);
        due("six that can be filled: told(9)", grid(SIX, "abc", "def", "cba", "adc", "beb", "cfa").told(9), 0);
        due("six, no words: told(9)", grid(SIX).told(9), 1);
        CrossedWords seven = grid("...#...#...#....");
        due("seven: told(0)", seven.told(0), 7);
        due("seven: told(9)", seven.told(9), NONE);
        due("eight: told(9)", new CrossedWords().told(9), NONE);
        CrossedWords filled = grid(OPEN, "abcd", "efab", "cdef", "aeca", "bfdb", "caec", "dbfa", "abca");
        due("eight that can be filled: told(8)", filled.told(8), 2);
        due("eight that can be filled: told(9)", filled.told(9), NONE);
        seven.block(15);
        due("seven still: told(9)", seven.told(9), NONE);
        seven.block(13);
        due("six again: told(9)", seven.told(0) == 6 ? seven.told(9) : -7, 1);
    }

    private static void odds() {
        about = "'AT ODDS: .. one does not FIT its SLOT, they are one WORD, or have unlike letters in the CELL in common'";
        CrossedWords x = grid(CORNER, "ab", "ac", "bc", "abc");
        due("together", x.odds(0, 0, 1, 1), 0);
        due("one word", x.odds(0, 0, 1, 0), 1);
        due("unlike letters", x.odds(0, 0, 1, 2), 1);
        due("too long, the first", x.odds(0, 3, 1, 1), 1);
        due("too long, the second", x.odds(0, 1, 1, 3), 1);
        due("too long, one word", x.odds(0, 3, 1, 3), 1);
        CrossedWords told = grid(".b##.###########", "ab", "ac");
        due("told by hand", told.odds(0, 0, 1, 1), 0);
        due("told by hand, the first does not fit", told.odds(0, 1, 1, 0), 1);
        due("told by hand, the second does not fit", told.odds(1, 0, 0, 1), 1);
        // The other slots are no matter.
        CrossedWords all = grid(SQUARE, "ab", "ac");
        due("none is left, but the two can stand", all.odds(0, 0, 2, 1), 0);
        due("not left: told(10)", all.told(10), 15);
        // The cell in common: the last of the one, the first of the other, and the other way round.
        CrossedWords last = grid("....###.###.###.", "abcd", "defa", "dcba");
        due("the last and the first", last.odds(0, 0, 1, 1), 0);
        due("the first and the last", last.odds(1, 1, 0, 0), 0);
        due("the last and the first, unlike", last.odds(0, 1, 1, 2), 1);
    }

    private static void wrong() {
        about = "'WRONG: how many FULL SLOTS have letters that are no WORD of it, and how many have the same letters as a FULL SLOT with a lesser number, together.'";
        due("no slots: told(6)", grid(BLOCKED).told(6), 0);
        due("none full: told(6)", grid("abc.############", "ab").told(6), 0);
        due("full, a word: told(6)", grid("abcd############", "abcd").told(6), 0);
        due("full, no word: told(6)", grid("abcd############", "abc", "dcba").told(6), 1);
        due("no words at all: told(6)", grid("abcd############").told(6), 1);
        due("the same, a word: told(6)", grid("ab######ab######", "ab").told(6), 1);
        due("the same, no word: told(6)", grid("ab######ab######").told(6), 3);
        due("the same thrice, a word: told(6)", grid("ab####abab######", "ab").told(6), 2);
        due("the same across and down: told(6)", grid("ab##b###########", "ab").told(6), 1);
        due("one longer than the other: told(6)", grid("ab######abc#####", "ab", "abc").told(6), 0);
        due("one not full: told(6)", grid("ab######a.######", "ab").told(6), 0);
        due("all alike, no word: told(6)", grid("aaaaaaaaaaaaaaaa").told(6), 15);
        due("all alike, a word: told(6)", grid("aaaaaaaaaaaaaaaa", "aaaa").told(6), 7);
        due("letters in no slot: told(6)", grid("a##a########a##a").told(6), 0);
    }

    /** The words of n lots, told with numbers of any size: the products go beyond 31 bits. */
    private static List<String> drawn(int n, int seed, List<String> list) {
        BigInteger x = BigInteger.valueOf(seed);
        BigInteger by = BigInteger.valueOf(2147483647);
        List<String> words = new ArrayList<>(list);
        for (int i = 0; i < n; i++) {
            x = x.multiply(BigInteger.valueOf(16807)).mod(by);
            int length = 2 + x.mod(BigInteger.valueOf(3)).intValue();
            StringBuilder word = new StringBuilder();
            for (int k = 0; k < length; k++) {
                x = x.multiply(BigInteger.valueOf(16807)).mod(by);
                word.append((char) (97 + x.mod(BigInteger.valueOf(6)).intValue()));
            }
            if (!words.contains(word.toString()) && words.size() < 16) words.add(word.toString());
        }
        return words;
    }

    private static void lots() {
        about = "'X (the SEED at first) becomes what is left of (X times 16807) by 2147483647 ahead of each number wanted'";
        int[] seeds = {1, 2, 3, 127773, 127774, 500000, 999998, 999999};
        for (int seed : seeds) {
            for (int n = 1; n <= 16; n++) {
                CrossedWords x = new CrossedWords();
                List<String> words = drawn(n, seed, List.of());
                due("drift(" + n + ", " + seed + ")", x.drift(n, seed), words.size());
                dueList("drift(" + n + ", " + seed + ")", x, words.toArray(new String[0]));
            }
        }
    }

    private static void room() {
        about = "'it is added, if it is not there, and there is room'";
        int twice = 0;
        for (int seed = 1; seed <= 300; seed++) {
            for (int words = 0; words <= 16; words += 4) {
                CrossedWords x = grid(OPEN, pairs(words));
                List<String> due = drawn(16, seed, List.of(pairs(words)));
                due("drift(16, " + seed + ") behind " + words, x.drift(16, seed), due.size() - words);
                dueList("drift(16, " + seed + ") behind " + words, x, due.toArray(new String[0]));
                if (due.size() < 16) twice++;
            }
        }
        due("lots that were there were drawn", twice > 10 ? 1 : 0, 1);
        CrossedWords last = grid(OPEN, pairs(15));
        due("room for one: drift(16, 7)", last.drift(16, 7), 1);
        due("no room: drift(16, 7)", last.drift(16, 7), 0);
        due("no room, but it is in bounds: drift(1, 999999)", last.drift(1, 999999), 0);
    }

    private static void undone() {
        about = "'(10 at most are kept, the oldest are lost)'";
        for (int changes = 0; changes <= 34; changes++) {
            CrossedWords x = new CrossedWords();
            for (int i = 0; i < changes; i++) x.letter(i % 16, 97 + i / 16);
            int kept = Math.min(changes, 10);
            due(changes + " changes, told(11)", x.told(11), kept);
            for (int i = 1; i <= kept; i++) {
                due(changes + " changes, undo() number " + i, x.undo(), kept - i);
                dueGrid(changes + " changes, undo() number " + i, x, lettered(changes - i));
            }
            due(changes + " changes, undo(), none", x.undo(), NOT);
            dueGrid(changes + " changes, undo(), none", x, lettered(changes - kept));
        }
    }

    private static String lettered(int changes) {
        StringBuilder cells = new StringBuilder(OPEN);
        for (int i = 0; i < changes; i++) cells.setCharAt(i % 16, (char) (97 + i / 16));
        return cells.toString();
    }

    private static void undoneKinds() {
        about = "'UNDONE: the latest of block(), open(), letter(), put(), wipe(), turn(), add(), strike(), drift() that was not refused'";
        CrossedWords x = new CrossedWords();
        x.block(3);
        x.open(3);
        x.letter(0, 97);
        x.add(code("abcd"));
        x.put(0, 0);
        x.wipe();
        x.turn();
        x.drift(1, 7);
        x.strike(0);
        due("nine, told(11)", x.told(11), 9);
        int[] refused = {x.block(16), x.open(0), x.letter(0, NONE), x.put(0, 0), x.put(9, 0), x.add(7), x.add(x.word(0, 0)),
            x.strike(1), x.drift(0, 1), x.keep(2), x.goBack(0), x.goBack(2)};
        for (int answer : refused) due("refused: " + answer, answer <= UNKNOWN ? 1 : 0, 1);
        x.told(8);
        x.cell(0, 3);
        x.slot(0, 7);
        x.word(0, 3);
        x.find(8);
        x.odds(0, 0, 4, 0);
        x.with(0, 0);
        due("refused ones and questions do not count, told(11)", x.told(11), 9);
        for (int i = 8; i >= 0; i--) due("undo()", x.undo(), i);
        dueGrid("all undone", x, OPEN);
        dueList("all undone", x);
        x.wipe();
        due("a wipe() of nothing is not refused: told(11)", x.told(11), 1);
        x.add(code("abcd"));
        x.put(0, 0);
        x.put(0, 0);
        due("a put() of what is there is not refused: told(11)", x.told(11), 4);
        x.drift(1, 7);
        x.drift(1, 7);
        due("a drift() of what is there is not refused: told(11)", x.told(11), 6);
        due("undo()", x.undo(), 5);
        due("told(1)", x.told(1), 2);
        due("undo()", x.undo(), 4);
        due("told(1)", x.told(1), 1);
    }

    private static void images() {
        about = "'IMAGES 0, 1 keep THE GRID and THE LIST.'";
        CrossedWords x = grid("a#..........#..f", "ab", "abcd");
        for (int i : new int[] {-1, 2, 3, 31, 32, MAX, MIN}) {
            due("keep(" + i + ")", x.keep(i), UNKNOWN);
            due("goBack(" + i + ")", x.goBack(i), UNKNOWN);
        }
        due("keep(0)", x.keep(0), 2);
        x.wipe();
        x.open(1);
        x.add(8);
        due("keep(1)", x.keep(1), 3);
        x.block(15);
        x.strike(0);
        for (int round = 0; round < 3; round++) {
            due("goBack(0)", x.goBack(0), 2);
            dueGrid("goBack(0)", x, "a#..........#..f");
            dueList("goBack(0)", x, "ab", "abcd");
            dueSlots("goBack(0)", x, "2:2 4:4 8:4 13:3 | 0:3 5:3 2:4 3:4");
            for (int i = 0; i < 12; i++) x.letter(5, 97 + i % 6);
            x.drift(16, 9);
            due("goBack(1)", x.goBack(1), 3);
            dueGrid("goBack(1)", x, "............#...");
            dueList("goBack(1)", x, "ab", "abcd", "aa");
            x.turn();
            x.undo();
        }
    }
}
