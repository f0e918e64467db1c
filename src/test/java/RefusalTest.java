import java.util.ArrayList;
import java.util.Arrays;
import java.util.List;
import java.util.Map;
import java.util.TreeMap;
import java.util.TreeSet;

/**
 * Every call with arguments at, within and beyond all bounds, in states of many kinds: which
 * refusals it answers, in which order, and that what is refused changes nothing, nor does a question.
 */
public final class RefusalTest extends Checks {
    private static final int[] CELL = {MIN, -2, -1, 0, 1, 7, 15, 16, 17, 32, MAX};
    private static final int[] SLOT = {MIN, -1, 0, 1, 3, 4, 7, 8, 32, MAX};
    private static final int[] WORD = {MIN, -1, 0, 1, 2, 15, 16, 32, MAX};
    private static final int[] LETTER = {MIN, -2, -1, 0, 96, 97, 98, 102, 103, MAX};
    private static final int[] CODE = {MIN, -1, 0, 7, 8, 9, 14, 48, 49, 57, 343, 400, 466, 2400, 2401, MAX};
    private static final int[] MANY = {MIN, -1, 0, 1, 16, 17, MAX};
    private static final int[] SEED = {MIN, -1, 0, 1, 7, 999999, 1000000, MAX};
    private static final int[] IMAGE = {MIN, -1, 0, 1, 2, 32, MAX};
    private static final int[] WHAT = {MIN, -1, 0, 3, 4, 5, 6, 7, 8, 9, 11, 12, MAX};

    private static final int STATES = 7;

    /** A call: its name, the refusals that the document names for it, and what its arguments are drawn from. */
    private record Call(String name, String refusals, int[]... drawn) { }

    private static final Call[] CHANGES = {
        new Call("block", "UNKNOWN NOT", CELL), new Call("open", "UNKNOWN NOT", CELL),
        new Call("letter", "UNKNOWN OUTSIDE NOT", CELL, LETTER), new Call("put", "UNKNOWN NOT", SLOT, WORD),
        new Call("wipe", ""), new Call("turn", ""), new Call("add", "OUTSIDE NOT FULL", CODE),
        new Call("strike", "UNKNOWN", WORD), new Call("drift", "OUTSIDE", MANY, SEED), new Call("undo", "NOT"),
        new Call("keep", "UNKNOWN", IMAGE), new Call("goBack", "UNKNOWN NOT", IMAGE)};
    private static final Call[] QUESTIONS = {
        new Call("told", "OUTSIDE", WHAT), new Call("cell", "UNKNOWN OUTSIDE", CELL, WHAT),
        new Call("slot", "UNKNOWN OUTSIDE", SLOT, WHAT), new Call("word", "UNKNOWN OUTSIDE", WORD, WHAT),
        new Call("find", "OUTSIDE", CODE), new Call("odds", "UNKNOWN", SLOT, WORD, SLOT, WORD),
        new Call("with", "UNKNOWN", SLOT, WORD)};

    private static final Map<Integer, String> NAMES = new TreeMap<>(
        Map.of(UNKNOWN, "UNKNOWN", OUTSIDE, "OUTSIDE", NOT, "NOT", FULL, "FULL"));

    public static void main(String[] args) {
        for (Call call : CHANGES) sweep(call, false);
        for (Call call : QUESTIONS) sweep(call, true);
        order();
        end();
    }

    // ---- the states

    private static CrossedWords state(int number) {
        switch (number) {
            case 0: return new CrossedWords();
            case 1: return middle();
            case 2: return full();
            case 3: return nothing();
            case 4: return undone();
            case 5: return square();
            default: return goneBack();
        }
    }

    private static CrossedWords middle() {
        CrossedWords x = grid("#a.....#........", "ab", "abc", "abcd");
        x.keep(1);
        x.letter(15, 102);
        x.add(16);
        x.block(12);
        return x;
    }

    /** A full list, ten that can be undone, both images kept. */
    private static CrossedWords full() {
        CrossedWords x = grid("..............#.", pairs(15));
        x.keep(0);
        x.turn();
        x.strike(3);
        x.keep(1);
        x.drift(16, 99);
        for (int i = 0; i < 13; i++) x.letter(i % 3, 97 + i / 3);
        return x;
    }

    private static CrossedWords nothing() {
        return grid(BLOCKED);
    }

    private static CrossedWords undone() {
        CrossedWords x = grid("..#..#.a.......#", "ab", "ba", "abab");
        for (int i = 0; i < 6; i++) x.turn();
        for (int i = 0; i < 10; i++) x.undo();
        return x;
    }

    private static CrossedWords square() {
        return grid("a.##..##########", "ab", "ac", "bd", "abc");
    }

    private static CrossedWords goneBack() {
        CrossedWords x = grid("abcd............", "abcd", "dcba");
        x.keep(0);
        x.wipe();
        x.goBack(0);
        return x;
    }

    // ---- all that can be seen

    private static void look(CrossedWords x, List<Integer> seen) {
        for (int what = 0; what < 12; what++) seen.add(x.told(what));
        for (int cell = 0; cell < 16; cell++) for (int what = 0; what < 4; what++) seen.add(x.cell(cell, what));
        for (int slot = 0; slot < x.told(0); slot++) for (int what = 0; what < 8; what++) seen.add(x.slot(slot, what));
        for (int word = 0; word < x.told(1); word++) for (int what = 0; what < 5; what++) seen.add(x.word(word, what));
    }

    /** What is so, what undo() leads to, and the images; the object is of no more use then. */
    private static List<Integer> lookBehind(CrossedWords x) {
        List<Integer> seen = new ArrayList<>();
        look(x, seen);
        for (int i = 0; i < 12; i++) {
            seen.add(x.undo());
            look(x, seen);
        }
        for (int i = 0; i < 2; i++) {
            seen.add(x.goBack(i));
            look(x, seen);
        }
        return seen;
    }

    // ---- the sweep

    private static void sweep(Call call, boolean question) {
        TreeSet<String> seen = new TreeSet<>();
        for (int number = 0; number < STATES; number++) {
            CrossedWords x = state(number);
            List<Integer> before = new ArrayList<>();
            look(x, before);
            int[] p = new int[4];
            int combinations = 1;
            for (int[] drawn : call.drawn) combinations *= drawn.length;
            for (int i = 0; i < combinations; i++) {
                int rest = i;
                for (int k = 0; k < call.drawn.length; k++) {
                    p[k] = call.drawn[k][rest % call.drawn[k].length];
                    rest /= call.drawn[k].length;
                }
                int answer = run(question ? x : state(number), call.name, p);
                String text = call.name + Arrays.toString(Arrays.copyOf(p, call.drawn.length)) + " in state " + number;
                if (answer < -1) {
                    about = "'REFUSALS'";
                    due(text + " is one of the four", NAMES.containsKey(answer) ? 1 : 0, 1);
                    seen.add(NAMES.getOrDefault(answer, "" + answer));
                    due(text + ", once more", run(x, call.name, p), answer);
                }
            }
            about = question ? "a question changes nothing" : "'What is refused changes nothing.'";
            List<Integer> after = new ArrayList<>();
            look(x, after);
            due(call.name + " in state " + number + ", what is so: like", after.equals(before) ? 1 : 0, 1);
            due(call.name + " in state " + number + ", what was and what is kept: like",
                lookBehind(x).equals(lookBehind(state(number))) ? 1 : 0, 1);
        }
        about = "the refusals that the document names";
        TreeSet<String> named = new TreeSet<>(Arrays.asList(call.refusals.split(" ")));
        named.remove("");
        due(call.name + " answers " + seen + ", named are " + named, seen.equals(named) ? 1 : 0, 1);
    }

    private static int run(CrossedWords x, String name, int[] p) {
        switch (name) {
            case "block": return x.block(p[0]);
            case "open": return x.open(p[0]);
            case "letter": return x.letter(p[0], p[1]);
            case "put": return x.put(p[0], p[1]);
            case "wipe": return x.wipe();
            case "turn": return x.turn();
            case "add": return x.add(p[0]);
            case "strike": return x.strike(p[0]);
            case "drift": return x.drift(p[0], p[1]);
            case "undo": return x.undo();
            case "told": return x.told(p[0]);
            case "cell": return x.cell(p[0], p[1]);
            case "slot": return x.slot(p[0], p[1]);
            case "word": return x.word(p[0], p[1]);
            case "find": return x.find(p[0]);
            case "odds": return x.odds(p[0], p[1], p[2], p[3]);
            case "with": return x.with(p[0], p[1]);
            case "keep": return x.keep(p[0]);
            default: return x.goBack(p[0]);
        }
    }

    // ---- of several the first

    private static void order() {
        about = "'REFUSALS, of several the first in this order: UNKNOWN .., OUTSIDE .., NOT .., FULL.'";
        CrossedWords x = grid("#..............f", "abcd", "ab");
        due("letter(16, 96), UNKNOWN ahead of OUTSIDE", x.letter(16, 96), UNKNOWN);
        due("letter(-1, 103), UNKNOWN ahead of OUTSIDE", x.letter(-1, 103), UNKNOWN);
        due("letter(0, 96), OUTSIDE ahead of NOT", x.letter(0, 96), OUTSIDE);
        due("letter(0, 103), OUTSIDE ahead of NOT", x.letter(0, 103), OUTSIDE);
        due("put(8, 1), UNKNOWN, whatever the size", x.put(8, 1), UNKNOWN);
        due("put(1, 2), UNKNOWN, whatever the size", x.put(1, 2), UNKNOWN);
        due("put(1, 1), NOT", x.put(1, 1), NOT);
        due("cell(16, 4), UNKNOWN ahead of OUTSIDE", x.cell(16, 4), UNKNOWN);
        due("slot(8, 8), UNKNOWN ahead of OUTSIDE", x.slot(8, 8), UNKNOWN);
        due("word(2, 5), UNKNOWN ahead of OUTSIDE", x.word(2, 5), UNKNOWN);
        due("odds(0, 2, 1, 0), UNKNOWN, though they do not cross", x.odds(0, 2, 1, 0), UNKNOWN);
        due("odds(0, 0, 0, 0), UNKNOWN, a slot twice", x.odds(0, 0, 0, 0), UNKNOWN);
        due("goBack(2), UNKNOWN ahead of NOT", x.goBack(2), UNKNOWN);
        due("goBack(1), NOT", x.goBack(1), NOT);
        CrossedWords full = grid(OPEN, pairs(16));
        due("add(7), OUTSIDE ahead of FULL", full.add(7), OUTSIDE);
        due("add(49), OUTSIDE ahead of FULL", full.add(49), OUTSIDE);
        due("add(8), NOT ahead of FULL", full.add(8), NOT);
        due("add(2400), FULL", full.add(2400), FULL);
    }
}
