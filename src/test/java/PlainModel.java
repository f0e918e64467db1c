import java.util.ArrayList;
import java.util.HashSet;
import java.util.List;
import java.util.Set;

/**
 * The document once more, as plainly as can be and with the Java library: words are texts, slots
 * are rows of cells, all is looked for anew at each question. It shares no code with CrossedWords.
 */
final class PlainModel {
    static final int NONE = -1, UNKNOWN = -1000000001, OUTSIDE = -1000000002, NOT = -1000000003, FULL = -1000000004;

    private record State(String grid, List<String> list) { }

    /** '#' blocked, '.' open without a letter. */
    private final char[] grid = "................".toCharArray();
    private final List<String> list = new ArrayList<>();
    private final List<State> past = new ArrayList<>();
    private final State[] images = new State[2];

    // ---- parts

    private State state() {
        return new State(new String(grid), new ArrayList<>(list));
    }

    private void become(State s) {
        s.grid.getChars(0, 16, grid, 0);
        list.clear();
        list.addAll(s.list);
    }

    private void note() {
        past.add(state());
        if (past.size() > 10) past.remove(0);
    }

    private List<int[]> slots() {
        List<int[]> found = new ArrayList<>();
        for (int direction = 0; direction < 2; direction++) {
            for (int line = 0; line < 4; line++) {
                List<Integer> run = new ArrayList<>();
                for (int i = 0; i < 5; i++) {
                    int cell = direction == 0 ? 4 * line + i : 4 * i + line;
                    if (i < 4 && grid[cell] != '#') { run.add(cell); continue; }
                    if (run.size() >= 2) found.add(run.stream().mapToInt(Integer::intValue).toArray());
                    run.clear();
                }
            }
        }
        return found;
    }

    private static boolean isDown(int[] slot) { return slot[1] - slot[0] == 4; }

    private static int placeOf(int[] slot, int cell) {
        for (int i = 0; i < slot.length; i++) if (slot[i] == cell) return i;
        return -1;
    }

    /** The cell in common, or -1. */
    private static int common(int[] a, int[] b) {
        for (int cell : a) if (placeOf(b, cell) >= 0) return cell;
        return -1;
    }

    private boolean fits(String word, int[] slot) {
        if (word.length() != slot.length) return false;
        for (int i = 0; i < slot.length; i++) {
            char c = grid[slot[i]];
            if (c != '.' && c != word.charAt(i)) return false;
        }
        return true;
    }

    private String textIn(int[] slot) {
        StringBuilder text = new StringBuilder();
        for (int cell : slot) text.append(grid[cell]);
        return text.toString();
    }

    private boolean isFull(int[] slot) { return textIn(slot).indexOf('.') < 0; }

    private static String wordOf(int code) {
        if (code < 8 || code > 2400) return null;
        String digits = Integer.toString(code, 7);
        if (digits.length() < 2 || digits.length() > 4 || digits.indexOf('0') >= 0) return null;
        StringBuilder word = new StringBuilder();
        for (char c : digits.toCharArray()) word.append((char) (c - '1' + 'a'));
        return word.toString();
    }

    private static int codeOf(String word) {
        int code = 0;
        for (char c : word.toCharArray()) code = code * 7 + (c - 96);
        return code;
    }

    private List<Set<Integer>> left() {
        List<int[]> slots = slots();
        List<Set<Integer>> left = new ArrayList<>();
        for (int[] slot : slots) {
            Set<Integer> words = new HashSet<>();
            for (int w = 0; w < list.size(); w++) if (fits(list.get(w), slot)) words.add(w);
            left.add(words);
        }
        while (dropOne(slots, left)) { }
        return left;
    }

    private boolean dropOne(List<int[]> slots, List<Set<Integer>> left) {
        for (int s = slots.size() - 1; s >= 0; s--) {
            for (int w : left.get(s)) {
                for (int o = 0; o < slots.size(); o++) {
                    int cell = o == s ? -1 : common(slots.get(s), slots.get(o));
                    if (cell < 0) continue;
                    boolean crossed = false;
                    for (int v : left.get(o)) {
                        crossed |= v != w && list.get(v).charAt(placeOf(slots.get(o), cell))
                            == list.get(w).charAt(placeOf(slots.get(s), cell));
                    }
                    if (!crossed) { left.get(s).remove(w); return true; }
                }
            }
        }
        return false;
    }

    /** Counts fillings of the slots from k on, and keeps the first one. */
    private int fill(List<int[]> slots, int k, int[] words, int found, int[] first, int mustSlot, int mustWord) {
        if (k == slots.size()) {
            if (found == 0) System.arraycopy(words, 0, first, 0, k);
            return found + 1;
        }
        for (int w = 0; w < list.size() && found < 999; w++) {
            if (k == mustSlot && w != mustWord) continue;
            boolean used = false;
            for (int i = 0; i < k; i++) used |= words[i] == w;
            if (used || !fits(list.get(w), slots.get(k))) continue;
            String before = new String(grid);
            for (int i = 0; i < slots.get(k).length; i++) grid[slots.get(k)[i]] = list.get(w).charAt(i);
            words[k] = w;
            found = fill(slots, k + 1, words, found, first, mustSlot, mustWord);
            before.getChars(0, 16, grid, 0);
        }
        return found;
    }

    private int fillings(List<int[]> slots) {
        return fill(slots, 0, new int[8], 0, new int[8], -1, -1);
    }

    private int knot() {
        List<int[]> slots = slots();
        if (slots.size() > 6) return NONE;
        int best = 0;
        for (int set = 1; set < 1 << slots.size(); set++) {
            if (best != 0 && Integer.bitCount(best) <= Integer.bitCount(set)) continue;
            List<int[]> some = new ArrayList<>();
            for (int s = 0; s < slots.size(); s++) if ((set >> s & 1) == 1) some.add(slots.get(s));
            if (fillings(some) == 0) best = set;
        }
        return best;
    }

    private static int setOf(Set<Integer> members) {
        int set = 0;
        for (int k : members) set |= 1 << k;
        return set;
    }

    private int crossedBy(int s) {
        List<int[]> slots = slots();
        int set = 0;
        for (int o = 0; o < slots.size(); o++) if (o != s && common(slots.get(s), slots.get(o)) >= 0) set |= 1 << o;
        return set;
    }

    // ---- the calls

    int block(int cell) {
        if (cell < 0 || cell > 15) return UNKNOWN;
        if (grid[cell] == '#') return NOT;
        note();
        grid[cell] = '#';
        return slots().size();
    }

    int open(int cell) {
        if (cell < 0 || cell > 15) return UNKNOWN;
        if (grid[cell] != '#') return NOT;
        note();
        grid[cell] = '.';
        return slots().size();
    }

    int letter(int cell, int letter) {
        if (cell < 0 || cell > 15) return UNKNOWN;
        if (letter != -1 && (letter < 97 || letter > 102)) return OUTSIDE;
        char wanted = letter == -1 ? '.' : (char) letter;
        char was = grid[cell];
        if (was == '#' || was == wanted) return NOT;
        note();
        grid[cell] = wanted;
        return was == '.' ? NONE : was;
    }

    int put(int slot, int word) {
        List<int[]> slots = slots();
        if (slot < 0 || slot >= slots.size() || word < 0 || word >= list.size()) return UNKNOWN;
        int[] cells = slots.get(slot);
        if (cells.length != list.get(word).length()) return NOT;
        note();
        int changed = 0;
        for (int i = 0; i < cells.length; i++) {
            if (grid[cells[i]] != list.get(word).charAt(i)) changed++;
            grid[cells[i]] = list.get(word).charAt(i);
        }
        return changed;
    }

    int wipe() {
        note();
        int had = 0;
        for (int i = 0; i < 16; i++) if (grid[i] >= 'a') { had++; grid[i] = '.'; }
        return had;
    }

    int turn() {
        note();
        String was = new String(grid);
        for (int a = 0; a < 4; a++) for (int b = 0; b < 4; b++) grid[4 * b + a] = was.charAt(4 * a + b);
        return slots().size();
    }

    int add(int code) {
        String word = wordOf(code);
        if (word == null) return OUTSIDE;
        if (list.contains(word)) return NOT;
        if (list.size() == 16) return FULL;
        note();
        list.add(word);
        return list.size() - 1;
    }

    int strike(int word) {
        if (word < 0 || word >= list.size()) return UNKNOWN;
        note();
        list.remove(word);
        return list.size();
    }

    int drift(int n, int seed) {
        if (n < 1 || n > 16 || seed < 1 || seed > 999999) return OUTSIDE;
        note();
        int before = list.size();
        long x = seed;
        for (int i = 0; i < n; i++) {
            x = x * 16807 % 2147483647;
            long length = 2 + x % 3;
            StringBuilder word = new StringBuilder();
            while (word.length() < length) {
                x = x * 16807 % 2147483647;
                word.append((char) (97 + x % 6));
            }
            if (!list.contains(word.toString()) && list.size() < 16) list.add(word.toString());
        }
        return list.size() - before;
    }

    int undo() {
        if (past.isEmpty()) return NOT;
        become(past.remove(past.size() - 1));
        return past.size();
    }

    int told(int what) {
        List<int[]> slots = slots();
        int answer = 0;
        switch (what) {
            case 0: return slots.size();
            case 1: return list.size();
            case 2: for (int c = 0; c < 16; c++) if (grid[c] == '#') answer |= 1 << c; return answer;
            case 3: for (int c = 0; c < 16; c++) if (grid[c] >= 'a') answer |= 1 << c; return answer;
            case 4: for (int s = 0; s < slots.size(); s++) answer += Integer.bitCount(crossedBy(s)); return answer / 2;
            case 5: for (int s = 0; s < slots.size(); s++) if (isFull(slots.get(s))) answer |= 1 << s; return answer;
            case 6: return wrong(slots);
            case 7: return hardest(slots);
            case 8: return fillings(slots);
            case 9: return knot();
            case 10: {
                List<Set<Integer>> left = left();
                for (int s = 0; s < slots.size(); s++) if (left.get(s).isEmpty()) answer |= 1 << s;
                return answer;
            }
            case 11: return past.size();
            default: return OUTSIDE;
        }
    }

    private int wrong(List<int[]> slots) {
        int notInList = 0;
        int same = 0;
        for (int s = 0; s < slots.size(); s++) {
            if (!isFull(slots.get(s))) continue;
            if (!list.contains(textIn(slots.get(s)))) notInList++;
            boolean before = false;
            for (int o = 0; o < s; o++) before |= textIn(slots.get(o)).equals(textIn(slots.get(s)));
            if (before) same++;
        }
        return notInList + same;
    }

    private int hardest(List<int[]> slots) {
        List<Set<Integer>> left = left();
        int best = NONE;
        int bestRank = 0;
        for (int s = 0; s < slots.size(); s++) {
            if (isFull(slots.get(s))) continue;
            int rank = left.get(s).size() * 100 + 10 - Integer.bitCount(crossedBy(s));
            if (best == NONE || rank < bestRank) { best = s; bestRank = rank; }
        }
        return best;
    }

    int cell(int cell, int what) {
        if (cell < 0 || cell > 15) return UNKNOWN;
        if (what < 0 || what > 3) return OUTSIDE;
        if (what == 0) return grid[cell] == '#' ? NONE : grid[cell] == '.' ? 0 : grid[cell];
        List<int[]> slots = slots();
        if (what < 3) {
            for (int s = 0; s < slots.size(); s++) {
                if (placeOf(slots.get(s), cell) >= 0 && isDown(slots.get(s)) == (what == 2)) return s;
            }
            return NONE;
        }
        if (grid[cell] == '#') return 0;
        int can = 63;
        boolean inSlot = false;
        List<Set<Integer>> left = left();
        for (int s = 0; s < slots.size(); s++) {
            int place = placeOf(slots.get(s), cell);
            if (place < 0) continue;
            inSlot = true;
            int here = 0;
            for (int w : left.get(s)) here |= 1 << (list.get(w).charAt(place) - 'a');
            can &= here;
        }
        return inSlot || grid[cell] == '.' ? can : 1 << (grid[cell] - 'a');
    }

    int slot(int slot, int what) {
        List<int[]> slots = slots();
        if (slot < 0 || slot >= slots.size()) return UNKNOWN;
        int[] cells = slots.get(slot);
        switch (what) {
            case 0: return cells[0];
            case 1: return cells.length;
            case 2: return isDown(cells) ? 1 : 0;
            case 3: return crossedBy(slot);
            case 4: return (int) list.stream().filter(w -> fits(w, cells)).count();
            case 5: return setOf(left().get(slot));
            case 6: return list.indexOf(textIn(cells));
            case 7: {
                int[] first = new int[8];
                return fill(slots, 0, new int[8], 0, first, -1, -1) == 0 ? NONE : first[slot];
            }
            default: return OUTSIDE;
        }
    }

    int word(int word, int what) {
        if (word < 0 || word >= list.size()) return UNKNOWN;
        String text = list.get(word);
        List<int[]> slots = slots();
        int answer = 0;
        switch (what) {
            case 0: return codeOf(text);
            case 1: return text.length();
            case 2: for (int[] s : slots) if (fits(text, s)) answer++; return answer;
            case 3: {
                List<Set<Integer>> left = left();
                for (int s = 0; s < slots.size(); s++) if (left.get(s).contains(word)) answer |= 1 << s;
                return answer;
            }
            case 4: for (int s = 0; s < slots.size(); s++) if (textIn(slots.get(s)).equals(text)) return s; return NONE;
            default: return OUTSIDE;
        }
    }

    int find(int code) {
        String word = wordOf(code);
        return word == null ? OUTSIDE : list.indexOf(word);
    }

    int odds(int slot, int word, int other, int another) {
        List<int[]> slots = slots();
        if (slot < 0 || slot >= slots.size() || other < 0 || other >= slots.size() || slot == other) return UNKNOWN;
        if (word < 0 || word >= list.size() || another < 0 || another >= list.size()) return UNKNOWN;
        int cell = common(slots.get(slot), slots.get(other));
        if (cell < 0) return NONE;
        String one = list.get(word);
        String two = list.get(another);
        if (!fits(one, slots.get(slot)) || !fits(two, slots.get(other)) || word == another) return 1;
        return one.charAt(placeOf(slots.get(slot), cell)) == two.charAt(placeOf(slots.get(other), cell)) ? 0 : 1;
    }

    int with(int slot, int word) {
        List<int[]> slots = slots();
        if (slot < 0 || slot >= slots.size() || word < 0 || word >= list.size()) return UNKNOWN;
        return fill(slots, 0, new int[8], 0, new int[8], slot, word);
    }

    int keep(int i) {
        if (i < 0 || i > 1) return UNKNOWN;
        images[i] = state();
        past.clear();
        return list.size();
    }

    int goBack(int i) {
        if (i < 0 || i > 1) return UNKNOWN;
        if (images[i] == null) return NOT;
        become(images[i]);
        past.clear();
        return list.size();
    }
}
