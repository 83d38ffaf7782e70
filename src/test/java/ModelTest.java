import java.util.ArrayList;
import java.util.List;
import java.util.Random;

/**
 * Random runs of calls, each answer compared with the slow Model. With arguments: a seed to begin
 * with and how many runs (the file of the program, which other tests want, is passed over).
 */
public final class ModelTest {
    private static final String[] WORDS = {"of", "sum", "meet", "arf", "part", "add", "drop"};

    private final Random random;
    private final int seed;
    private final StringBuilder story = new StringBuilder();
    private StepSums real;
    private Model model;
    private int calls;
    private static int wrong;

    private ModelTest(int seed) {
        this.seed = seed;
        random = new Random(seed);
    }

    public static void main(String[] args) {
        int first = args.length > 1 ? Integer.parseInt(args[0]) : 1;
        int runs = args.length > 1 ? Integer.parseInt(args[1]) : 120;
        long all = 0;
        for (int seed = first; seed < first + runs && wrong < 20; seed++) {
            ModelTest test = new ModelTest(seed);
            test.run();
            all += test.calls;
        }
        System.out.println("ModelTest: " + all + " calls in " + runs + " runs, " + wrong + " answers wrong");
        if (wrong != 0) {
            System.exit(1);
        }
    }

    private int below(int n) {
        return random.nextInt(n);
    }

    private boolean chance(int percent) {
        return below(100) < percent;
    }

    private void run() {
        real = new StepSums();
        model = new Model();
        if (seed % 10 == 0) {
            askAll();
        }
        if (seed % 4 == 1) {
            goFar();
        }
        for (int text = 0; calls < 430; text++) {
            sendText();
            int steps = 10 + below(60);
            for (int i = 0; i < steps && calls < 505; i++) {
                if (chance(25)) {
                    byHand();
                } else {
                    ask(below(28));
                }
            }
        }
    }

    private void askAll() {
        for (int what = 0; what < 28; what++) {
            ask(what);
        }
    }

    private void due(String call, long got, long want) {
        calls++;
        story.append(call).append('\n');
        if (got != want) {
            wrong++;
            System.out.println("seed " + seed + ", call " + calls + ": " + call + " answered " + got + ", due is " + want);
            if (wrong == 1) {
                System.out.println(story);
            }
        }
    }

    private void due(String call, boolean got, boolean want) {
        due(call, got ? 1 : 0, want ? 1 : 0);
    }

    // ---- texts

    private void sendText() {
        if (chance(10)) {
            int n = chance(20) ? wild() : below(50) - 3;
            due("back " + n, real.back(n), model.back(n));
        }
        String text = chance(12) ? anyText() : goodText();
        if (chance(35)) {
            text = spoiled(text);
        }
        feedText(text);
        due("read " + text, real.read(), model.read());
        due("place", real.place(), model.place());
        due("count 2", real.count(2), model.count(2));
        due("count 0", real.count(0), model.count(0));
    }

    private void feedText(String text) {
        StringBuilder padded = new StringBuilder(text);
        while (padded.length() % 20 != 0) {
            padded.append(' ');
        }
        for (int at = 0; at < padded.length(); at += 20) {
            int[] f = new int[5];
            for (int i = 0; i < 20; i++) {
                f[i / 4] = f[i / 4] << 8 | padded.charAt(at + i);
            }
            due("feed", real.feed(f[0], f[1], f[2], f[3], f[4]), model.feed(f[0], f[1], f[2], f[3], f[4]));
        }
        int less = padded.length() - text.length();
        due("back " + less, real.back(less), model.back(less));
    }

    private String blank() {
        String[] blanks = {" ", " ", " ", "\n", "\t", "\r", "  ", " \n "};
        return blanks[below(blanks.length)];
    }

    private String nameOf(int i) {
        String[] names = {"a", "b", "cc", "ofx", "summeets", "zyxwvuts"};
        return i < names.length ? names[i] : "more";
    }

    private String goodText() {
        StringBuilder text = new StringBuilder(chance(20) ? blank() : "");
        List<Model.Whole> made = new ArrayList<>();
        int lines = chance(5) ? 7 : chance(4) ? 0 : 1 + below(6);
        for (int line = 0; line < lines; line++) {
            String word = line == 0 || chance(30) ? "of" : WORDS[below(7)];
            List<Model.Whole> others = new ArrayList<>();
            List<Integer> ints = new ArrayList<>();
            text.append(word).append(blank()).append(nameOf(line)).append(blank());
            int names = word.equals("of") ? 0 : word.equals("sum") || word.equals("meet") ? 2 : 1;
            for (int n = 0; n < names; n++) {
                int other = below(line);
                others.add(made.get(other));
                text.append(nameOf(other)).append(blank());
            }
            addInts(word, others, ints);
            for (int n = 0; n < ints.size(); n++) {
                text.append(n == 0 ? "" : blank()).append(chance(5) ? "0" : "").append(ints.get(n));
            }
            text.append(chance(20) ? blank() : "").append(";").append(chance(60) ? blank() : "");
            Model.Whole w = Model.make(word, others, ints);
            if (w == null) {
                return text.toString();
            }
            made.add(w);
        }
        return text.toString();
    }

    private void addInts(String word, List<Model.Whole> others, List<Integer> ints) {
        switch (word) {
            case "of": {
                int many = chance(3) ? 10 : 1 + below(5);
                int least = chance(50) ? 1 : chance(50) ? 4 : 11;
                for (int i = 0; i < many; i++) {
                    ints.add(least + below(16 - least));
                }
                if (chance(85)) {
                    ints.set(0, ints.get(many - 1) == 15 ? 14 : ints.get(many - 1) + 1);
                }
                break;
            }
            case "part":
                ints.add(1 + below(chance(50) ? 3 : 9));
                break;
            case "add": {
                List<Integer> special = others.get(0).special();
                ints.add(special.isEmpty() || chance(5) ? below(20) : special.get(below(special.size())));
                break;
            }
            case "drop": {
                List<Integer> g = others.get(0).generators();
                ints.add(chance(5) ? below(20) : g.get(below(g.size())));
                break;
            }
            default:
        }
    }

    private String spoiled(String text) {
        StringBuilder out = new StringBuilder(text);
        int times = 1 + below(2);
        for (int i = 0; i < times && out.length() > 0; i++) {
            int at = below(out.length());
            String[] bits = {"of", "a", "b", "qq", ";", " ", "7", "16", "0", "99999", "1234", "ninechars", "A", ".",
                "\u00e9", "\u0000", "add", "sum", " of x 3 4;", "12 13 14 15 1 2 3 4 5 6 7"};
            switch (below(3)) {
                case 0:
                    out.insert(at, bits[below(bits.length)]);
                    break;
                case 1:
                    out.deleteCharAt(at);
                    break;
                default:
                    out.replace(at, Math.min(out.length(), at + 1 + below(3)), bits[below(bits.length)]);
            }
        }
        return out.toString();
    }

    private String anyText() {
        String[] bits = {"of", "sum", "meet", "arf", "part", "add", "drop", "a", "b", "cc", ";", ";", "3", "5", "15", "2"};
        StringBuilder out = new StringBuilder();
        int many = below(15);
        for (int i = 0; i < many; i++) {
            out.append(bits[below(bits.length)]).append(chance(80) ? " " : "");
        }
        return out.toString();
    }

    // ---- as far as a SET may go

    private static final String[] FAR_TEXTS = {
        "of a 14 15;", "of a 14 15;of b 13 15;meet c a b;sum d a b;arf e a;part f a 2;",
        "of a 13 14;of b 11 15;meet c a b;", "of a 12 13 14 15;", "of a 10 11 12 13 14 15;of b 8 15;", "of a 1;"};

    /** By hand to where CONDUCTOR and GENERATORS may not become more, then some of all is asked. */
    private void goFar() {
        feedText(FAR_TEXTS[below(FAR_TEXTS.length)]);
        due("read", real.read(), model.read());
        int way = below(3);
        int steps = 20 + below(130);
        for (int i = 0; i < steps; i++) {
            int set = below(model.count(0));
            int last = model.generator(set, -1) - 1;
            int x = model.generator(set, way == 0 ? 0 : way == 1 ? last : below(last + 1));
            due("drop " + set + " " + x, real.drop(set, x), model.drop(set, x));
        }
        for (int set = 0; set < model.count(0); set++) {
            due("GENERATORS of " + set, real.generator(set, -1), model.generator(set, -1));
            due("CONDUCTOR of " + set, real.about(set, 1), model.about(set, 1));
            due("RULES of " + set, real.about(set, 6), model.about(set, 6));
        }
        for (int i = 0; i < 120; i++) {
            ask(below(28));
        }
    }

    // ---- calls

    private int anySet() {
        int size = model.count(0);
        return chance(4) || size == 0 ? below(9) - 1 : below(size);
    }

    private int wild() {
        int[] ends = {Integer.MIN_VALUE, Integer.MAX_VALUE, -2, 1 << 30, 65536, 256, 400, 901, 9999, 10000};
        return chance(50) ? random.nextInt() : ends[below(ends.length)] + below(3) - 1;
    }

    private int index(int size) {
        if (chance(3)) {
            return wild();
        }
        return chance(25) ? below(5) - 2 : size > 0 && chance(90) ? below(size) : below(30);
    }

    private void byHand() {
        int set = anySet();
        switch (below(12)) {
            case 0:
                due("undo", real.undo(), model.undo());
                break;
            case 1: {
                int slot = chance(5) ? wild() : below(5) - 1;
                due("hold " + slot, real.hold(slot), model.hold(slot));
                break;
            }
            case 2: {
                int slot = chance(5) ? wild() : below(5) - 1;
                due("restore " + slot, real.restore(slot), model.restore(slot));
                break;
            }
            case 3: case 4: case 5: case 6: {
                int many = Math.max(0, model.stiff(set, -1));
                int x = chance(5) ? wild() : many == 0 || chance(10) ? below(40) - 2 : model.stiff(set, below(many));
                due("add " + set + " " + x, real.add(set, x), model.add(set, x));
                break;
            }
            default: {
                int many = Math.max(0, model.generator(set, -1));
                int x = chance(5) ? wild() : many == 0 || chance(10) ? below(420) - 2 : model.generator(set, below(many));
                int times = chance(15) ? 12 : 1;
                for (int i = 0; i < times; i++) {
                    due("drop " + set + " " + x, real.drop(set, x), model.drop(set, x));
                    x = times == 1 ? x : Math.max(model.generator(set, 0), 1);
                }
            }
        }
    }

    private void ask(int which) {
        int s = anySet();
        int o = anySet();
        int x = chance(5) ? below(1000) - 20 : below(151);
        int i = below(6) - 2;
        if (chance(4)) {
            s = chance(30) ? wild() : s;
            o = chance(30) ? wild() : o;
            x = chance(50) ? wild() : x;
            i = chance(50) ? wild() : i;
        }
        switch (which) {
            case 0: {
                int y = chance(5) ? below(10003) - 1 : below(220);
                due("has " + s + " " + y, real.has(s, y), model.has(s, y));
                break;
            }
            case 1:
                i = index(model.gap(s, -1));
                due("gap " + s + " " + i, real.gap(s, i), model.gap(s, i));
                break;
            case 2:
                i = index(model.generator(s, -1));
                due("generator " + s + " " + i, real.generator(s, i), model.generator(s, i));
                break;
            case 3: {
                int n = chance(4) ? wild() : chance(50) ? below(205) - 1 : Math.max(1, model.generator(s, 0));
                int r = chance(4) ? wild() : chance(5) ? below(205) - 2 : below(Math.max(1, n));
                due("apery " + s + " " + n + " " + r, real.apery(s, n, r), model.apery(s, n, r));
                break;
            }
            case 4:
                i = index(model.stiff(s, -1));
                due("stiff " + s + " " + i, real.stiff(s, i), model.stiff(s, i));
                break;
            case 5:
                i = index(model.special(s, -1));
                due("special " + s + " " + i, real.special(s, i), model.special(s, i));
                break;
            case 6: case 7: {
                int what = chance(2) ? wild() : chance(5) ? below(20) - 5 : below(8);
                due("about " + s + " " + what, real.about(s, what), model.about(s, what));
                break;
            }
            case 8:
                due("ways " + s + " " + x, real.ways(s, x), model.ways(s, x));
                break;
            case 9: {
                int k = index(model.generator(s, -1));
                i = index(Math.min(3000, model.ways(s, x)));
                int want = model.way(s, x, i, k);
                if (want != Integer.MAX_VALUE) {
                    due("way " + s + " " + x + " " + i + " " + k, real.way(s, x, i, k), want);
                }
                break;
            }
            case 10: {
                int want = model.length(s, x, i);
                if (want != Integer.MAX_VALUE) {
                    due("length " + s + " " + x + " " + i, real.length(s, x, i), want);
                }
                break;
            }
            case 11: {
                int y = chance(10) ? 895 + below(8) : x;
                due("parts " + s + " " + y, real.parts(s, y), model.parts(s, y));
                break;
            }
            case 12:
                i = index(model.tie(s, -1));
                due("tie " + s + " " + i, real.tie(s, i), model.tie(s, i));
                break;
            case 13:
                x = chance(50) ? below(60) : x;
                due("chain " + s + " " + x, real.chain(s, x), model.chain(s, x));
                break;
            case 14:
                due("greedy " + s + " " + x + " " + i, real.greedy(s, x, i), model.greedy(s, x, i));
                break;
            case 15:
                due("blunder " + s, real.blunder(s), model.blunder(s));
                break;
            case 16: {
                int r = index(model.generator(s, 0));
                due("kunz " + s + " " + r, real.kunz(s, r), model.kunz(s, r));
                break;
            }
            case 17:
                i = index(model.child(s, -1));
                due("child " + s + " " + i, real.child(s, i), model.child(s, i));
                break;
            case 18:
                due("below " + s + " " + i, real.below(s, i), model.below(s, i));
                break;
            case 19:
                due("meeting " + s + " " + o + " " + i, real.meeting(s, o, i), model.meeting(s, o, i));
                break;
            case 20: {
                int genus = chance(3) ? wild() : below(11) - 1;
                i = index(model.list(genus, -1, 0));
                int k = index(genus);
                due("list " + genus + " " + i + " " + k, real.list(genus, i, k), model.list(genus, i, k));
                break;
            }
            case 21:
                due("listed " + s, real.listed(s), model.listed(s));
                break;
            case 22:
                due("above " + s, real.above(s), model.above(s));
                break;
            case 23:
                i = index(model.piece(s, -1));
                due("piece " + s + " " + i, real.piece(s, i), model.piece(s, i));
                break;
            case 24:
                i = index(model.good(s, -1));
                due("good " + s + " " + i, real.good(s, i), model.good(s, i));
                break;
            case 25:
                due("same " + s + " " + o, real.same(s, o), model.same(s, o));
                break;
            default: {
                int what = below(10) - 1;
                due("count " + what, real.count(what), model.count(what));
                break;
            }
        }
    }
}
