import java.util.ArrayList;
import java.util.List;
import java.util.Random;

/** Long runs of calls, drawn with fixed seeds, on CrossedWords and on PlainModel: like answers are due. */
public final class ModelTest {
    private static final int RUNS = 2400;
    private static final int CALLS = 220;
    /** Nothing is promised of an object beyond so many calls. */
    private static final int MOST_CALLS = 512;
    private static final String[] NAMES = {"block", "open", "letter", "put", "wipe", "turn", "add", "strike", "drift",
        "undo", "told", "cell", "slot", "word", "find", "odds", "with", "keep", "goBack"};
    /** How often each call is drawn, of the sum of all. */
    private static final int[] WEIGHTS = {7, 5, 7, 6, 1, 2, 14, 3, 1, 5, 16, 8, 12, 6, 2, 6, 6, 1, 1};

    /** Four slots that do not cross. */
    private static final String FOUR_APART = "..####....####..";

    private final Random random;
    private final CrossedWords real = new CrossedWords();
    private final PlainModel model = new PlainModel();
    private final List<String> log = new ArrayList<>();
    private final int alphabet;
    private int calls;

    private ModelTest(int seed) {
        random = new Random(seed);
        alphabet = 1 + random.nextInt(6);
    }

    public static void main(String[] args) {
        int wrong = 0;
        int[] seen = new int[4];
        for (int seed = 1; seed <= RUNS && wrong < 5; seed++) {
            ModelTest test = new ModelTest(seed);
            if (!test.run(seen)) {
                wrong++;
                System.out.println("run of seed " + seed + ":");
                for (String line : test.log) System.out.println("  " + line);
            }
        }
        System.out.println("fillings 1 to 998: " + seen[0] + ", 999: " + seen[1] + ", none: " + seen[2] + ", knots: " + seen[3]);
        boolean thin = seen[0] < 100 || seen[1] < 50 || seen[2] < 100 || seen[3] < 100;
        if (thin) System.out.println("the runs drawn show too little");
        if (wrong != 0 || thin) System.exit(1);
    }

    /** All is asked once, ahead of the calls drawn or behind them: twice would be too many calls. */
    private boolean run(int[] seen) {
        boolean early = random.nextBoolean();
        if (!begin()) return false;
        note(seen);
        if (early && !askAll()) return false;
        for (int i = 0; i < CALLS; i++) {
            if (!same(drawCall(), 0, 0, 0, -1)) return false;
        }
        note(seen);
        return (early || askAll()) && fewEnough();
    }

    private boolean fewEnough() {
        if (calls > MOST_CALLS) log.add("the test is wrong: " + calls + " calls");
        return calls <= MOST_CALLS;
    }

    /** Blocks, few or many, and most of a list: calls drawn one by one seldom come to many fillings. */
    private boolean begin() {
        int blocks = random.nextInt(8);
        boolean apart = random.nextInt(5) == 0;
        for (int cell = 0; cell < 16; cell++) {
            boolean block = apart ? FOUR_APART.charAt(cell) == '#' : random.nextInt(10) < blocks;
            if (block && !same(0, cell, 0, 0, 0)) return false;
        }
        if (random.nextInt(2) == 0 && !addFilling()) return false;
        int words = random.nextInt(20);
        for (int i = 0; i < words; i++) {
            if (!same(6, drawCode(), 0, 0, 0)) return false;
        }
        return true;
    }

    /** The words of a grid full of letters, so that large grids can be filled too. */
    private boolean addFilling() {
        int[] letters = new int[16];
        for (int cell = 0; cell < 16; cell++) letters[cell] = 1 + random.nextInt(alphabet);
        for (int slot = model.told(0) - 1; slot >= 0; slot--) {
            int code = 0;
            for (int i = 0; i < model.slot(slot, 1); i++) {
                code = code * 7 + letters[model.slot(slot, 0) + i * (model.slot(slot, 2) == 1 ? 4 : 1)];
            }
            if (!same(6, code, 0, 0, 0)) return false;
        }
        return true;
    }

    private void note(int[] seen) {
        calls += 2;
        int fillings = real.told(8);
        seen[fillings == 0 ? 2 : fillings == 999 ? 1 : 0]++;
        if (real.told(9) > 0) seen[3]++;
    }

    private int drawCall() {
        int sum = 0;
        for (int weight : WEIGHTS) sum += weight;
        int drawn = random.nextInt(sum);
        for (int call = 0; ; call++) {
            drawn -= WEIGHTS[call];
            if (drawn < 0) return call;
        }
    }

    /** Up to most - 1, now and then a little outside of that. */
    private int number(int most) {
        if (random.nextInt(40) == 0) {
            int[] odd = {-1, -2, most, most + 1, Integer.MAX_VALUE, Integer.MIN_VALUE, 31, 32, 33, -32};
            return odd[random.nextInt(odd.length)];
        }
        return random.nextInt(Math.max(1, most));
    }

    private int drawCode() {
        if (random.nextInt(12) == 0) return number(2403);
        int code = 0;
        int slots = model.told(0);
        int letters = slots == 0 || random.nextInt(8) == 0 ? 2 + random.nextInt(3) : model.slot(random.nextInt(slots), 1);
        for (int i = 0; i < letters; i++) code = code * 7 + 1 + random.nextInt(alphabet);
        return code;
    }

    private int[] drawArguments(int call) {
        int slots = model.told(0);
        int words = model.told(1);
        switch (NAMES[call]) {
            case "block": case "open": return new int[] {number(16)};
            case "letter": return new int[] {number(16), random.nextInt(4) == 0 ? -1 : 97 + number(random.nextInt(5) == 0 ? 6 : alphabet)};
            case "put": case "with": return new int[] {number(slots), number(words)};
            case "add": case "find": return new int[] {drawCode()};
            case "strike": return new int[] {number(words)};
            case "drift": return new int[] {number(17), number(random.nextInt(2) == 0 ? 20 : 1000000)};
            case "told": return new int[] {number(12)};
            case "cell": return new int[] {number(16), number(4)};
            case "slot": return new int[] {number(slots), number(8)};
            case "word": return new int[] {number(words), number(5)};
            case "odds": return new int[] {number(slots), number(words), number(slots), number(words)};
            case "keep": case "goBack": return new int[] {number(2)};
            default: return new int[0];
        }
    }

    /** One call on both; d = -1: arguments are drawn. */
    private boolean same(int call, int a, int b, int c, int d) {
        int[] p = {a, b, c, d};
        if (d == -1) System.arraycopy(drawArguments(call), 0, p, 0, drawnLength(call));
        calls++;
        int got = callReal(call, p);
        int due = callModel(call, p);
        log.add(NAMES[call] + java.util.Arrays.toString(java.util.Arrays.copyOf(p, drawnLength(call))) + " answered " + got
            + (got == due ? "" : ", due is " + due));
        return got == due;
    }

    private static int drawnLength(int call) {
        switch (NAMES[call]) {
            case "wipe": case "turn": case "undo": return 0;
            case "letter": case "put": case "with": case "drift": case "cell": case "slot": case "word": return 2;
            case "odds": return 4;
            default: return 1;
        }
    }

    private int callReal(int call, int[] p) {
        switch (NAMES[call]) {
            case "block": return real.block(p[0]);
            case "open": return real.open(p[0]);
            case "letter": return real.letter(p[0], p[1]);
            case "put": return real.put(p[0], p[1]);
            case "wipe": return real.wipe();
            case "turn": return real.turn();
            case "add": return real.add(p[0]);
            case "strike": return real.strike(p[0]);
            case "drift": return real.drift(p[0], p[1]);
            case "undo": return real.undo();
            case "told": return real.told(p[0]);
            case "cell": return real.cell(p[0], p[1]);
            case "slot": return real.slot(p[0], p[1]);
            case "word": return real.word(p[0], p[1]);
            case "find": return real.find(p[0]);
            case "odds": return real.odds(p[0], p[1], p[2], p[3]);
            case "with": return real.with(p[0], p[1]);
            case "keep": return real.keep(p[0]);
            default: return real.goBack(p[0]);
        }
    }

    private int callModel(int call, int[] p) {
        switch (NAMES[call]) {
            case "block": return model.block(p[0]);
            case "open": return model.open(p[0]);
            case "letter": return model.letter(p[0], p[1]);
            case "put": return model.put(p[0], p[1]);
            case "wipe": return model.wipe();
            case "turn": return model.turn();
            case "add": return model.add(p[0]);
            case "strike": return model.strike(p[0]);
            case "drift": return model.drift(p[0], p[1]);
            case "undo": return model.undo();
            case "told": return model.told(p[0]);
            case "cell": return model.cell(p[0], p[1]);
            case "slot": return model.slot(p[0], p[1]);
            case "word": return model.word(p[0], p[1]);
            case "find": return model.find(p[0]);
            case "odds": return model.odds(p[0], p[1], p[2], p[3]);
            case "with": return model.with(p[0], p[1]);
            case "keep": return model.keep(p[0]);
            default: return model.goBack(p[0]);
        }
    }

    private boolean askAll() {
        boolean good = true;
        for (int what = 0; what < 12; what++) good &= same(10, what, 0, 0, 0);
        for (int cell = 0; cell < 16; cell++) for (int what = 0; what < 4; what++) good &= same(11, cell, what, 0, 0);
        for (int slot = 0; slot < 8; slot++) for (int what = 0; what < 8; what++) good &= same(12, slot, what, 0, 0);
        for (int word = 0; word < 16; word++) for (int what = 0; what < 5; what++) good &= same(13, word, what, 0, 0);
        return good;
    }
}
