/** What the tests share: wrong answers are counted and told, grids and lists are made and looked at. */
abstract class Checks {
    static final int NONE = -1, UNKNOWN = -1000000001, OUTSIDE = -1000000002, NOT = -1000000003, FULL = -1000000004;
    static final int MIN = Integer.MIN_VALUE, MAX = Integer.MAX_VALUE;
    /** Numbers that are no cell, slot or word, whatever there is. */
    static final int[] FAR = {-1, -2, 16, 17, 32, MAX, MIN};

    static final String OPEN = "................";
    static final String BLOCKED = "################";
    /** Slots: 0 across 0 1; 1 across 4 5; 2 down 0 4; 3 down 1 5. */
    static final String SQUARE = "..##..##########";
    /** Slots: 0 across 0 1; 1 down 0 4. */
    static final String CORNER = "..##.###########";
    /** Slots 0 .. 3 across, of two cells each, none of which cross. */
    static final String FOUR_APART = "..####....####..";
    static final String THREE_APART = "..####....######";
    /** Slots: 0, 1, 2 across, 3, 4, 5 down, of three cells each. */
    static final String SIX = "...#...#...#####";

    /** What is tested now: a promise, or a sentence of the document. */
    static String about = "";
    private static int wrong = 0;

    static void due(String what, int got, int want) {
        if (got != want) {
            wrong++;
            System.out.println(about + ": " + what + " answered " + got + ", due is " + want);
        }
    }

    static void end() {
        if (wrong != 0) System.exit(1);
    }

    static CrossedWords grid(String cells, String... words) {
        CrossedWords x = new CrossedWords();
        for (int cell = 0; cell < 16; cell++) if (cells.charAt(cell) == '#') x.block(cell);
        for (int cell = 0; cell < 16; cell++) if (cells.charAt(cell) >= 'a') x.letter(cell, cells.charAt(cell));
        for (String word : words) x.add(code(word));
        return x;
    }

    static int code(String word) {
        int code = 0;
        for (char c : word.toCharArray()) code = code * 7 + c - 96;
        return code;
    }

    /** The first n of aa, ab, .. af, ba, .. */
    static String[] pairs(int n) {
        String[] words = new String[n];
        for (int i = 0; i < n; i++) words[i] = "" + (char) ('a' + i / 6) + (char) ('a' + i % 6);
        return words;
    }

    static void dueGrid(String what, CrossedWords x, String cells) {
        for (int cell = 0; cell < 16; cell++) {
            char c = cells.charAt(cell);
            due(what + ": cell(" + cell + ", 0)", x.cell(cell, 0), c == '#' ? NONE : c == '.' ? 0 : c);
        }
    }

    static void dueList(String what, CrossedWords x, String... words) {
        due(what + ": told(1)", x.told(1), words.length);
        for (int word = 0; word < words.length; word++) due(what + ": word(" + word + ", 0)", x.word(word, 0), code(words[word]));
        due(what + ": the word behind the last", x.word(words.length, 0), UNKNOWN);
    }

    /** The slots as "0:2 4:2 | 0:2 1:2": the first cell and the size of those across, then of those down. */
    static void dueSlots(String what, CrossedWords x, String slots) {
        String[] parts = slots.trim().split(" +");
        int slot = 0;
        int down = 0;
        for (String part : parts) {
            if (part.equals("|")) { down = 1; continue; }
            String[] numbers = part.split(":");
            due(what + ": slot(" + slot + ", 0)", x.slot(slot, 0), Integer.parseInt(numbers[0]));
            due(what + ": slot(" + slot + ", 1)", x.slot(slot, 1), Integer.parseInt(numbers[1]));
            due(what + ": slot(" + slot + ", 2)", x.slot(slot, 2), down);
            slot++;
        }
        due(what + ": told(0)", x.told(0), slot);
        due(what + ": the slot behind the last", x.slot(slot, 0), UNKNOWN);
    }
}
