import java.util.ArrayList;
import java.util.Arrays;
import java.util.List;
import java.util.Map;
import java.util.TreeMap;
import java.util.TreeSet;

/**
 * Every call with arguments at, within and beyond all bounds, in states of many kinds: which
 * refusals it answers, in which order, and that what is refused changes nothing, nor does a question.
 */
public final class RefusalTest extends Checks {
    private static final int[] CELL = {MIN, -2, -1, 0, 1, 7, 15, 16, 17, 32, MAX};
    private static final int[] SLOT = {MIN, -1, 0, 1, 3, 4, 7, 8, 32, MAX};
    private static final int[] WORD = {MIN, -1, 0, 1, 2, 15, 16, 32, MAX};
    private static final int[] LETTER = {MIN, -2, -1, 0, 96, 97, 98, 102, 103, MAX};
    private static final int[] CODE = {MIN, -1, 0, 7, 8, 9, 14, 48, 49, 57, 343, 400, 466, 2400, 2401, MAX};
    private static final int[] MANY = {MIN, -1, 0, 1, 16, 17, MAX};
    private static final int[] SEED = {MIN, -1, 0, 1, 7, 999999, 1000000, MAX};
    private static final int[] IMAGE = {MIN, -1, 0, 1, 2, 32, MAX};
    private static final int[] WHAT = {MIN, -1, 0, 3, 4, 5, 6, 7, 8, 9, 11, 12, MAX};

    private static final int STATES = 7;
    /** Kinds of questions to look at what is so: told, cell, slot, word. */
    private static final int KINDS = 4;
    /** So many calls one behind the other leave enough of an object's 512 to look around. */
    private static final int LOT = 300;

    /** A call: its name, the refusals that the document names for it, and what its arguments are drawn from. */
    private record Call(String name, String refusals, int[]... drawn) { }

    private static final Call[] CHANGES = {
        new Call("block", "UNKNOWN NOT", CELL), new Call("open", "UNKNOWN NOT", CELL),
        new Call("letter", "UNKNOWN OUTSIDE NOT", CELL, LETTER), new Call("put", "UNKNOWN NOT", SLOT, WORD),
        new Call("wipe", ""), new Call("turn", ""), new Call("add", "OUTSIDE NOT FULL", CODE),
        new Call("strike", "UNKNOWN", WORD), new Call("drift", "OUTSIDE", MANY, SEED), new Call("undo", "NOT"),
        new Call("keep", "UNKNOWN", IMAGE), new Call("goBack", "UNKNOWN NOT", IMAGE)};
    private static final Call[] QUESTIONS = {
        new Call("told", "OUTSIDE", WHAT), new Call("cell", "UNKNOWN OUTSIDE", CELL, WHAT),
        new Call("slot", "UNKNOWN OUTSIDE", SLOT, WHAT), new Call("word", "UNKNOWN OUTSIDE", WORD, WHAT),
        new Call("find", "OUTSIDE", CODE), new Call("odds", "UNKNOWN", SLOT, WORD, SLOT, WORD),
        new Call("with", "UNKNOWN", SLOT, WORD)};

    private static final Map<Integer, String> NAMES = new TreeMap<>(
        Map.of(UNKNOWN, "UNKNOWN", OUTSIDE, "OUTSIDE", NOT, "NOT", FULL, "FULL"));

    public static void main(String[] args) {
        for (Call call : CHANGES) sweep(call, false);
        for (Call call : QUESTIONS) sweep(call, true);
        order();
        end();
    }

    // ---- the states

    private static CrossedWords state(int number) {
        switch (number) {
            case 0: return new CrossedWords();
            case 1: return middle();
            case 2: return full();
            case 3: return nothing();
            case 4: return undone();
            case 5: return square();
            default: return goneBack();
        }
    }

    private static CrossedWords middle() {
        CrossedWords x = grid("#a.....#........", "ab", "abc", "abcd");
        x.keep(1);
        x.letter(15, 102);
        x.add(16);
        x.block(12);
        return x;
    }

    /** A full list, ten that can be undone, both images kept. */
    private static CrossedWords full() {
        CrossedWords x = grid("..............#.", pairs(15));
        x.keep(0);
        x.turn();
        x.strike(3);
        x.keep(1);
        x.drift(16, 99);
        for (int i = 0; i < 13; i++) x.letter(i % 3, 97 + i / 3);
        return x;
    }

    private static CrossedWords nothing() {
        return grid(BLOCKED);
    }

    /** Nothing can be undone, and what is so is neither of the images. */
    private static CrossedWords undone() {
        CrossedWords x = grid("..#..#.a.......#", "ab", "ba");
        x.keep(0);
        x.add(code("abab"));
        x.keep(1);
        x.block(14);
        for (int i = 0; i < 10; i++) x.turn();
        for (int i = 0; i < 10; i++) x.undo();
        return x;
    }

    private static CrossedWords square() {
        return grid("a.##..##########", "ab", "ac", "bd", "abc");
    }

    private static CrossedWords goneBack() {
        CrossedWords x = grid("abcd............", "abcd", "dcba");
        x.keep(0);
        x.wipe();
        x.goBack(0);
        return x;
    }

    // ---- all that can be seen

    /** Looks by one kind of question alone, lest the others hide what one of them changes. */
    private static void look(CrossedWords x, int kind, List<Integer> seen) {
        int[] many = {1, 16, 8, 16};
        int[] whats = {12, 4, 8, 5};
        for (int number = 0; number < many[kind]; number++) {
            for (int what = 0; what < whats[kind]; what++) seen.add(ask(x, kind, number, what));
        }
    }

    private static int ask(CrossedWords x, int kind, int number, int what) {
        switch (kind) {
            case 0: return x.told(what);
            case 1: return x.cell(number, what);
            case 2: return x.slot(number, what);
            default: return x.word(number, what);
        }
    }

    /**
     * What is so in a state behind some calls, what each undo() leads to, and the images. Each is
     * looked at on an object of its own: none is promised anything beyond its 512th call.
     */
    private static List<Integer> lookBehind(int number, Call call, List<int[]> lot) {
        List<Integer> seen = new ArrayList<>();
        for (int kind = 0; kind < KINDS; kind++) {
            for (int back = 0; back <= 11; back++) {
                CrossedWords x = stateBehind(number, call, lot);
                for (int i = 0; i < back; i++) seen.add(x.undo());
                look(x, kind, seen);
            }
            for (int i = 0; i < 2; i++) {
                CrossedWords x = stateBehind(number, call, lot);
                seen.add(x.goBack(i));
                look(x, kind, seen);
            }
        }
        return seen;
    }

    private static CrossedWords stateBehind(int number, Call call, List<int[]> lot) {
        CrossedWords x = state(number);
        for (int[] p : lot) run(x, call.name, p);
        return x;
    }

    // ---- the sweep

    private static void sweep(Call call, boolean question) {
        TreeSet<String> seen = new TreeSet<>();
        for (int number = 0; number < STATES; number++) {
            List<int[]> idle = new ArrayList<>();
            for (int[] p : arguments(call)) {
                int answer = run(state(number), call.name, p);
                if (answer < -1) {
                    about = "'REFUSALS'";
                    due(text(call, p, number) + " is one of the four", NAMES.containsKey(answer) ? 1 : 0, 1);
                    seen.add(NAMES.getOrDefault(answer, "" + answer));
                }
                if (answer < -1 || question) idle.add(p);
            }
            about = question ? "a question changes nothing" : "'What is refused changes nothing.'";
            changesNothing(call, number, idle);
        }
        about = "the refusals that the document names";
        TreeSet<String> named = new TreeSet<>(Arrays.asList(call.refusals.split(" ")));
        named.remove("");
        due(call.name + " answers " + seen + ", named are " + named, seen.equals(named) ? 1 : 0, 1);
    }

    /** All ways to draw the arguments of a call. */
    private static List<int[]> arguments(Call call) {
        int ways = 1;
        for (int[] drawn : call.drawn) ways *= drawn.length;
        List<int[]> all = new ArrayList<>();
        for (int i = 0; i < ways; i++) {
            int[] p = new int[call.drawn.length];
            int rest = i;
            for (int k = 0; k < p.length; k++) {
                p[k] = call.drawn[k][rest % call.drawn[k].length];
                rest /= call.drawn[k].length;
            }
            all.add(p);
        }
        return all;
    }

    private static void changesNothing(Call call, int number, List<int[]> idle) {
        List<Integer> before = lookBehind(number, call, List.of());
        for (int start = 0; start < idle.size(); start += LOT) {
            List<int[]> lot = idle.subList(start, Math.min(start + LOT, idle.size()));
            CrossedWords x = state(number);
            for (int[] p : lot) {
                due(text(call, p, number) + ", behind others", run(x, call.name, p), run(state(number), call.name, p));
            }
            due(text(call, lot.get(0), number) + " and on: what is so, what was and what is kept are like",
                lookBehind(number, call, lot).equals(before) ? 1 : 0, 1);
        }
    }

    private static String text(Call call, int[] p, int number) {
        return call.name + Arrays.toString(p) + " in state " + number;
    }

    private static int run(CrossedWords x, String name, int[] p) {
        switch (name) {
            case "block": return x.block(p[0]);
            case "open": return x.open(p[0]);
            case "letter": return x.letter(p[0], p[1]);
            case "put": return x.put(p[0], p[1]);
            case "wipe": return x.wipe();
            case "turn": return x.turn();
            case "add": return x.add(p[0]);
            case "strike": return x.strike(p[0]);
            case "drift": return x.drift(p[0], p[1]);
            case "undo": return x.undo();
            case "told": return x.told(p[0]);
            case "cell": return x.cell(p[0], p[1]);
            case "slot": return x.slot(p[0], p[1]);
            case "word": return x.word(p[0], p[1]);
            case "find": return x.find(p[0]);
            case "odds": return x.odds(p[0], p[1], p[2], p[3]);
            case "with": return x.with(p[0], p[1]);
            case "keep": return x.keep(p[0]);
            default: return x.goBack(p[0]);
        }
    }

    // ---- of several the first

    private static void order() {
        about = "'REFUSALS, of several the first in this order: UNKNOWN .., OUTSIDE .., NOT .., FULL.'";
        CrossedWords x = grid("#..............f", "abcd", "ab");
        due("letter(16, 96), UNKNOWN ahead of OUTSIDE", x.letter(16, 96), UNKNOWN);
        due("letter(-1, 103), UNKNOWN ahead of OUTSIDE", x.letter(-1, 103), UNKNOWN);
        due("letter(0, 96), OUTSIDE ahead of NOT", x.letter(0, 96), OUTSIDE);
        due("letter(0, 103), OUTSIDE ahead of NOT", x.letter(0, 103), OUTSIDE);
        due("put(8, 1), UNKNOWN, whatever the size", x.put(8, 1), UNKNOWN);
        due("put(1, 2), UNKNOWN, whatever the size", x.put(1, 2), UNKNOWN);
        due("put(1, 1), NOT", x.put(1, 1), NOT);
        due("cell(16, 4), UNKNOWN ahead of OUTSIDE", x.cell(16, 4), UNKNOWN);
        due("slot(8, 8), UNKNOWN ahead of OUTSIDE", x.slot(8, 8), UNKNOWN);
        due("word(2, 5), UNKNOWN ahead of OUTSIDE", x.word(2, 5), UNKNOWN);
        due("odds(0, 2, 1, 0), UNKNOWN, though they do not cross", x.odds(0, 2, 1, 0), UNKNOWN);
        due("odds(0, 0, 0, 0), UNKNOWN, a slot twice", x.odds(0, 0, 0, 0), UNKNOWN);
        due("goBack(2), UNKNOWN ahead of NOT", x.goBack(2), UNKNOWN);
        due("goBack(1), NOT", x.goBack(1), NOT);
        CrossedWords full = grid(OPEN, pairs(16));
        due("add(7), OUTSIDE ahead of FULL", full.add(7), OUTSIDE);
        due("add(49), OUTSIDE ahead of FULL", full.add(49), OUTSIDE);
        due("add(8), NOT ahead of FULL", full.add(8), NOT);
        due("add(2400), FULL", full.add(2400), FULL);
    }
}
