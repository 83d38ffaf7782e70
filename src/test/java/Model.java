import java.util.ArrayList;
import java.util.Arrays;
import java.util.HashMap;
import java.util.LinkedHashMap;
import java.util.List;
import java.util.Map;
import java.util.TreeMap;
import java.util.TreeSet;
import java.util.regex.Matcher;
import java.util.regex.Pattern;

/** The document once more, word by word and slowly: what StepSums is compared with. */
final class Model {
    static final int NONE = -1;
    static final int N = 1300;

    /** A SET as its numbers below N; all from N on are of it. */
    static final class Whole {
        final boolean[] in = new boolean[N];

        boolean has(int x) {
            return x >= 0 && (x >= N || in[x]);
        }

        static Whole all() {
            Whole w = new Whole();
            Arrays.fill(w.in, true);
            return w;
        }

        Whole copy() {
            Whole w = new Whole();
            System.arraycopy(in, 0, w.in, 0, N);
            return w;
        }

        Whole with(int x) {
            Whole w = copy();
            w.in[x] = true;
            return w;
        }

        Whole without(int x) {
            Whole w = copy();
            w.in[x] = false;
            return w;
        }

        int top() {
            int x = N - 1;
            while (x >= 0 && in[x]) {
                x--;
            }
            return x;
        }

        int conductor() {
            return top() + 1;
        }

        List<Integer> gaps() {
            List<Integer> list = new ArrayList<>();
            for (int x = 1; x < N; x++) {
                if (!in[x]) {
                    list.add(x);
                }
            }
            return list;
        }

        private List<Integer> known;

        /** Asked only of SETS that are made: their numbers do not change any more. */
        List<Integer> generators() {
            if (known == null) {
                known = findGenerators();
            }
            return new ArrayList<>(known);
        }

        private List<Integer> findGenerators() {
            List<Integer> list = new ArrayList<>();
            int end = 2 * Math.max(1, conductor()) + 2;
            for (int x = 1; x < end; x++) {
                boolean made = !has(x);
                for (int a = 1; a < x && !made; a++) {
                    made = has(a) && has(x - a);
                }
                if (!made) {
                    list.add(x);
                }
            }
            return list;
        }

        boolean closed() {
            int end = conductor();
            for (int a = 1; a < end; a++) {
                for (int b = a; in[a] && a + b < end; b++) {
                    if (in[b] && !in[a + b]) {
                        return false;
                    }
                }
            }
            return true;
        }

        /** The least SET that has all of these numbers. */
        Whole closure() {
            Whole w = copy();
            w.in[0] = true;
            boolean more = true;
            int end = conductor();
            while (more) {
                more = false;
                for (int a = 1; a < end; a++) {
                    for (int b = a; w.in[a] && a + b < end; b++) {
                        if (w.in[b] && !w.in[a + b]) {
                            w.in[a + b] = true;
                            more = true;
                        }
                    }
                }
            }
            return w;
        }

        List<Integer> stiff() {
            List<Integer> list = new ArrayList<>();
            int end = conductor() + 1;
            for (int x : gaps()) {
                boolean so = true;
                for (int s = 1; s <= end && so; s++) {
                    so = !has(s) || has(x + s);
                }
                if (so) {
                    list.add(x);
                }
            }
            return list;
        }

        List<Integer> special() {
            List<Integer> list = stiff();
            list.removeIf(x -> !has(2 * x));
            return list;
        }

        boolean symmetric() {
            int top = top();
            for (int x = -N / 2; x < N / 2; x++) {
                if (has(x) == has(top - x)) {
                    return false;
                }
            }
            return true;
        }

        boolean nearly() {
            int top = top();
            if (top <= 0 || top % 2 != 0) {
                return false;
            }
            for (int x = -N / 2; x < N / 2; x++) {
                if (2 * x != top && has(x) == has(top - x)) {
                    return false;
                }
            }
            return true;
        }

        boolean lone() {
            return symmetric() || nearly();
        }

        boolean allOf(Whole other) {
            for (int x = 0; x < N; x++) {
                if (other.in[x] && !in[x]) {
                    return false;
                }
            }
            return true;
        }

        Whole parent() {
            return with(top());
        }

        List<Whole> children() {
            List<Whole> list = new ArrayList<>();
            int top = top();
            for (int g : generators()) {
                if (g > top) {
                    list.add(without(g));
                }
            }
            return list;
        }

        boolean equalTo(Whole other) {
            return Arrays.equals(in, other.in);
        }

        boolean tooFar() {
            return conductor() > 200 || generators().size() > 24;
        }
    }

    private final StringBuilder tape = new StringBuilder();
    private List<Whole> sets = new ArrayList<>();
    private final List<List<Whole>> undo = new ArrayList<>();
    private final List<List<Whole>> slots = new ArrayList<>(Arrays.asList(null, null, null));
    private int place = NONE;
    private static final Map<Integer, List<Whole>> LISTS = new HashMap<>();

    private Whole at(int set) {
        return set >= 0 && set < sets.size() ? sets.get(set) : null;
    }

    int feed(int a, int b, int c, int d, int e) {
        if (tape.length() + 20 > 2000) {
            return NONE;
        }
        for (int four : new int[] {a, b, c, d, e}) {
            tape.append((char) (four >>> 24)).append((char) (four >>> 16 & 255));
            tape.append((char) (four >>> 8 & 255)).append((char) (four & 255));
        }
        return tape.length();
    }

    int back(int n) {
        if (n < 0 || n > tape.length()) {
            return NONE;
        }
        tape.setLength(tape.length() - n);
        return tape.length();
    }

    private static final Pattern TOKEN = Pattern.compile("([a-z]+)|([0-9]+)|(;)|([\t\n\r ]+)|(.)", Pattern.DOTALL);
    private static final Pattern TEXT = Pattern.compile("(ONI+;|BNNN;|ANN;|PNNI;)*");

    int read() {
        String text = tape.toString();
        tape.setLength(0);
        place = NONE;
        int[] where = {NONE};
        List<Whole> made = new ArrayList<>();
        int fault = faultOf(text, where, made);
        place = where[0];
        if (fault == 0) {
            sets = made;
            undo.clear();
            for (int i = 0; i < 3; i++) {
                slots.set(i, null);
            }
        }
        return fault;
    }

    private static char kindOf(Matcher m) {
        if (m.group(1) != null) {
            switch (m.group(1)) {
                case "of": return 'O';
                case "sum": case "meet": return 'B';
                case "arf": return 'A';
                case "part": case "add": case "drop": return 'P';
                default: return m.group(1).length() <= 8 ? 'N' : '?';
            }
        }
        if (m.group(2) != null) {
            return m.group(2).length() <= 4 ? 'I' : '?';
        }
        return m.group(3) != null ? ';' : '?';
    }

    private static int faultOf(String text, int[] where, List<Whole> made) {
        Matcher m = TOKEN.matcher(text);
        StringBuilder kinds = new StringBuilder();
        List<String> words = new ArrayList<>();
        List<Integer> places = new ArrayList<>();
        int lines = 0;
        int ints = 0;
        while (m.find()) {
            if (m.group(4) != null) {
                continue;
            }
            boolean lineStart = kinds.length() == 0 || kinds.charAt(kinds.length() - 1) == ';';
            char kind = kindOf(m);
            kinds.append(kind);
            Matcher prefix = TEXT.matcher(kinds);
            if (!prefix.matches() && !prefix.hitEnd()) {
                where[0] = m.start();
                return 1;
            }
            lines += lineStart ? 1 : 0;
            ints = kind == 'I' ? ints + 1 : 0;
            if (lines > 6 || ints > 10) {
                where[0] = m.start();
                return 2;
            }
            words.add(m.group());
            places.add(m.start());
        }
        if (!TEXT.matcher(kinds).matches()) {
            where[0] = text.length();
            return 1;
        }
        return lateFault(words, places, where, made);
    }

    private static int lateFault(List<String> words, List<Integer> places, int[] where, List<Whole> made) {
        Map<String, Whole> known = new LinkedHashMap<>();
        for (int from = 0; from < words.size();) {
            int to = from;
            while (!words.get(to).equals(";")) {
                to++;
            }
            int fault = 0;
            String word = words.get(from);
            String own = words.get(from + 1);
            where[0] = places.get(from + 1);
            if (known.containsKey(own)) {
                return 3;
            }
            List<Whole> others = new ArrayList<>();
            List<Integer> ints = new ArrayList<>();
            for (int i = from + 2; i < to; i++) {
                where[0] = places.get(i);
                String w = words.get(i);
                if (Character.isDigit(w.charAt(0))) {
                    int x = Integer.parseInt(w);
                    ints.add(x);
                    boolean right = word.equals("of") && x >= 1 && x <= 15
                        || word.equals("part") && x >= 1 && x <= 9
                        || word.equals("add") && others.get(0).special().contains(x)
                        || word.equals("drop") && others.get(0).generators().contains(x);
                    if (!right) {
                        return 5;
                    }
                } else if (known.containsKey(w)) {
                    others.add(known.get(w));
                } else {
                    return 4;
                }
            }
            where[0] = places.get(to);
            Whole w = make(word, others, ints);
            if (w == null || w.tooFar()) {
                return 6;
            }
            known.put(own, w);
            made.add(w);
            from = to + 1;
            where[0] = NONE;
        }
        where[0] = NONE;
        return 0;
    }

    static Whole make(String word, List<Whole> others, List<Integer> ints) {
        Whole w = new Whole();
        switch (word) {
            case "of": {
                for (int d = 2; d <= 15; d++) {
                    int divisor = d;
                    if (ints.stream().allMatch(i -> i % divisor == 0)) {
                        return null;
                    }
                }
                w.in[0] = true;
                for (int x = 1; x < N; x++) {
                    for (int i : ints) {
                        w.in[x] |= x >= i && w.in[x - i];
                    }
                }
                return w;
            }
            case "sum":
                for (int x = 0; x < N; x++) {
                    for (int y = 0; y <= x; y++) {
                        w.in[x] |= others.get(0).in[y] && others.get(1).in[x - y];
                    }
                }
                return w;
            case "meet":
                for (int x = 0; x < N; x++) {
                    w.in[x] = others.get(0).in[x] && others.get(1).in[x];
                }
                return w;
            case "arf":
                return arf(others.get(0));
            case "part":
                for (int x = 0; x < N; x++) {
                    w.in[x] = others.get(0).has(x * ints.get(0));
                }
                return w;
            case "add":
                return others.get(0).with(ints.get(0));
            default:
                return others.get(0).without(ints.get(0));
        }
    }

    private static Whole arf(Whole from) {
        Whole w = from.copy();
        int end = from.conductor() + 1;
        boolean more = true;
        while (more) {
            more = false;
            for (int z = 0; z < end; z++) {
                for (int x = z; w.in[z] && x < end; x++) {
                    for (int y = x; w.in[x] && x + y - z < end; y++) {
                        if (w.in[y] && !w.in[x + y - z]) {
                            w.in[x + y - z] = true;
                            more = true;
                        }
                    }
                }
            }
        }
        return w;
    }

    int place() {
        return place;
    }

    private boolean change(int set, Whole to) {
        if (to.tooFar()) {
            return false;
        }
        undo.add(new ArrayList<>(sets));
        if (undo.size() > 40) {
            undo.remove(0);
        }
        sets.set(set, to);
        return true;
    }

    boolean add(int set, int x) {
        Whole w = at(set);
        return w != null && w.special().contains(x) && change(set, w.with(x));
    }

    boolean drop(int set, int x) {
        Whole w = at(set);
        return w != null && w.generators().contains(x) && change(set, w.without(x));
    }

    boolean undo() {
        if (undo.isEmpty()) {
            return false;
        }
        sets = undo.remove(undo.size() - 1);
        return true;
    }

    int has(int set, int x) {
        Whole w = at(set);
        return w == null || x < 0 || x > 9999 ? NONE : w.has(x) ? 1 : 0;
    }

    private static int pick(List<Integer> list, int i) {
        return i == NONE ? list.size() : i >= 0 && i < list.size() ? list.get(i) : NONE;
    }

    int gap(int set, int i) {
        return at(set) == null ? NONE : pick(at(set).gaps(), i);
    }

    int generator(int set, int i) {
        return at(set) == null ? NONE : pick(at(set).generators(), i);
    }

    int apery(int set, int n, int r) {
        Whole w = at(set);
        if (w == null || n < 1 || n > 200 || !w.has(n) || r < 0 || r >= n) {
            return NONE;
        }
        for (int x = 0;; x++) {
            if (w.has(x) && x % n == r) {
                return x;
            }
        }
    }

    int stiff(int set, int i) {
        return at(set) == null ? NONE : pick(at(set).stiff(), i);
    }

    int special(int set, int i) {
        return at(set) == null ? NONE : pick(at(set).special(), i);
    }

    int about(int set, int what) {
        Whole w = at(set);
        if (w == null || what < 0 || what > 7) {
            return Integer.MIN_VALUE;
        }
        int smaller = 0;
        for (int x = 0; x < w.conductor(); x++) {
            smaller += w.has(x) ? 1 : 0;
        }
        switch (what) {
            case 0: return w.top();
            case 1: return w.conductor();
            case 2: return w.symmetric() ? 1 : 0;
            case 3: return w.nearly() ? 1 : 0;
            case 4: return w.generators().size() * smaller - w.conductor();
            case 5: return smaller;
            case 6: {
                int rules = 0;
                List<Integer> g = w.generators();
                for (int x = 1; x <= 900; x++) {
                    rules += Math.max(0, partsOf(w, g, x) - 1);
                }
                return rules;
            }
            default: {
                int sum = 0;
                for (int x : w.gaps()) {
                    sum += x;
                }
                for (int k = 1; k <= w.gaps().size(); k++) {
                    sum -= k;
                }
                return sum;
            }
        }
    }

    static long count(List<Integer> g, int from, int x) {
        long[] ways = new long[x + 1];
        ways[0] = 1;
        for (int k = from; k < g.size(); k++) {
            for (int y = g.get(k); y <= x; y++) {
                ways[y] += ways[y - g.get(k)];
            }
        }
        return ways[x];
    }

    /** All WAYS in order, up to a limit; null if there are more. */
    static List<int[]> allWays(List<Integer> g, int x, int limit) {
        if (count(g, 0, x) > limit) {
            return null;
        }
        List<int[]> out = new ArrayList<>();
        walk(g, 0, x, new int[g.size()], out);
        return out;
    }

    private static void walk(List<Integer> g, int k, int rest, int[] taken, List<int[]> out) {
        if (k == g.size()) {
            if (rest == 0) {
                out.add(taken.clone());
            }
            return;
        }
        if (k > 0 && count(g, k, rest) == 0) {
            return;
        }
        for (int n = rest / g.get(k); n >= 0; n--) {
            taken[k] = n;
            walk(g, k + 1, rest - n * g.get(k), taken, out);
        }
        taken[k] = 0;
    }

    int ways(int set, int x) {
        Whole w = at(set);
        return w == null || x < 0 || x > 150 ? NONE : (int) count(w.generators(), 0, x);
    }

    /** Integer.MAX_VALUE where there are too many to look through. */
    int way(int set, int x, int i, int k) {
        Whole w = at(set);
        if (w == null || x < 0 || x > 150) {
            return NONE;
        }
        List<int[]> ways = allWays(w.generators(), x, 3000);
        if (ways == null) {
            return Integer.MAX_VALUE;
        }
        if (i < 0 || i >= ways.size() || k < 0 || k >= w.generators().size()) {
            return NONE;
        }
        return ways.get(i)[k];
    }

    static int lengthOf(int[] way) {
        return Arrays.stream(way).sum();
    }

    int length(int set, int x, int what) {
        Whole w = at(set);
        if (w == null || x < 0 || x > 150 || what < 0 || what > 3) {
            return NONE;
        }
        List<int[]> ways = allWays(w.generators(), x, 3000);
        if (ways == null) {
            return Integer.MAX_VALUE;
        }
        TreeSet<Integer> lengths = new TreeSet<>();
        for (int[] way : ways) {
            lengths.add(lengthOf(way));
        }
        if (lengths.isEmpty()) {
            return -2;
        }
        int step = 0;
        for (int l : lengths) {
            Integer next = lengths.higher(l);
            step = next == null ? step : Math.max(step, next - l);
        }
        return what == 0 ? lengths.first() : what == 1 ? lengths.last() : what == 2 ? lengths.size() : step;
    }

    static int partsOf(Whole w, List<Integer> g, int x) {
        List<Integer> beginnings = new ArrayList<>();
        for (int a : g) {
            if (w.has(x - a)) {
                beginnings.add(a);
            }
        }
        int n = beginnings.size();
        int[] part = new int[n];
        for (int i = 0; i < n; i++) {
            part[i] = i;
        }
        for (int i = 0; i < n; i++) {
            for (int j = i + 1; j < n; j++) {
                if (part[i] != part[j] && w.has(x - beginnings.get(i) - beginnings.get(j))) {
                    int old = part[j];
                    for (int k = 0; k < n; k++) {
                        part[k] = part[k] == old ? part[i] : part[k];
                    }
                }
            }
        }
        return (int) Arrays.stream(part).distinct().count();
    }

    int parts(int set, int x) {
        Whole w = at(set);
        return w == null || x < 0 || x > 900 ? NONE : partsOf(w, w.generators(), x);
    }

    int tie(int set, int i) {
        Whole w = at(set);
        if (w == null) {
            return NONE;
        }
        List<Integer> g = w.generators();
        List<Integer> ties = new ArrayList<>();
        for (int x = 0; x < N; x++) {
            if (partsOf(w, g, x) > 1) {
                ties.add(x);
            }
        }
        return pick(ties, i);
    }

    static int apart(int[] a, int[] b) {
        int[] c = a.clone();
        int[] d = b.clone();
        for (int k = 0; k < a.length; k++) {
            while (c[k] > 0 && d[k] > 0) {
                c[k]--;
                d[k]--;
            }
        }
        return Math.max(lengthOf(c), lengthOf(d));
    }

    int chain(int set, int x) {
        Whole w = at(set);
        if (w == null || x < 0 || x > 150) {
            return NONE;
        }
        List<int[]> ways = allWays(w.generators(), x, 60);
        if (ways == null || ways.isEmpty()) {
            return -2;
        }
        for (int n = 0;; n++) {
            List<Integer> seen = new ArrayList<>(List.of(0));
            for (int at = 0; at < seen.size(); at++) {
                for (int j = 0; j < ways.size(); j++) {
                    if (!seen.contains(j) && apart(ways.get(seen.get(at)), ways.get(j)) <= n) {
                        seen.add(j);
                    }
                }
            }
            if (seen.size() == ways.size()) {
                return n;
            }
        }
    }

    private static int[] grab(List<Integer> g, int x) {
        int rest = x;
        int takes = 0;
        for (int k = g.size() - 1; k >= 0; k--) {
            takes += rest / g.get(k);
            rest %= g.get(k);
        }
        return new int[] {rest == 0 ? 1 : 0, takes, rest};
    }

    int greedy(int set, int x, int what) {
        Whole w = at(set);
        if (w == null || x < 0 || x > 150 || what < 0 || what > 2) {
            return NONE;
        }
        return grab(w.generators(), x)[what];
    }

    int blunder(int set) {
        Whole w = at(set);
        if (w == null) {
            return NONE;
        }
        List<Integer> g = w.generators();
        int[] least = new int[151];
        Arrays.fill(least, 1000);
        least[0] = 0;
        for (int x = 1; x <= 150; x++) {
            for (int a : g) {
                least[x] = a <= x ? Math.min(least[x], least[x - a] + 1) : least[x];
            }
        }
        for (int x = 0; x <= 150; x++) {
            int[] got = grab(g, x);
            if (w.has(x) && (got[0] == 0 || got[1] > least[x])) {
                return x;
            }
        }
        return -2;
    }

    int kunz(int set, int r) {
        Whole w = at(set);
        if (w == null) {
            return NONE;
        }
        int m = w.generators().get(0);
        return r < 1 || r > m - 1 ? NONE : apery(set, m, r) / m;
    }

    int child(int set, int i) {
        Whole w = at(set);
        if (w == null) {
            return NONE;
        }
        List<Integer> g = w.generators();
        int top = w.top();
        g.removeIf(x -> x <= top);
        return pick(g, i);
    }

    int below(int set, int n) {
        Whole w = at(set);
        if (w == null || n < 0 || n > 2) {
            return NONE;
        }
        List<Whole> level = new ArrayList<>(List.of(w));
        for (int k = 0; k < n; k++) {
            List<Whole> next = new ArrayList<>();
            for (Whole v : level) {
                next.addAll(v.children());
            }
            level = next;
        }
        return level.size();
    }

    int meeting(int set, int other, int what) {
        Whole a = at(set);
        Whole b = at(other);
        if (a == null || b == null || what < 0 || what > 2) {
            return NONE;
        }
        int ups = 0;
        for (Whole x = a;; x = x.parent()) {
            int downs = 0;
            for (Whole y = b;; y = y.parent()) {
                if (x.equalTo(y)) {
                    return what == 0 ? x.gaps().size() : what == 1 ? ups : downs;
                }
                downs++;
                if (y.top() < 0) {
                    break;
                }
            }
            ups++;
        }
    }

    static List<Whole> listOf(int genus) {
        return LISTS.computeIfAbsent(genus, Model::makeList);
    }

    private static List<Whole> makeList(int genus) {
        List<Whole> out = new ArrayList<>();
        int most = 2 * genus;
        for (int bits = 0; bits < 1 << most; bits++) {
            if (Integer.bitCount(bits) == genus) {
                Whole w = Whole.all();
                for (int k = 0; k < most; k++) {
                    w.in[k + 1] = (bits >> k & 1) == 0;
                }
                if (w.closed()) {
                    out.add(w);
                }
            }
        }
        out.sort((a, b) -> {
            for (int x = 0; x < N; x++) {
                if (a.in[x] != b.in[x]) {
                    return a.in[x] ? -1 : 1;
                }
            }
            return 0;
        });
        return out;
    }

    int list(int genus, int i, int k) {
        if (genus < 0 || genus > 8) {
            return NONE;
        }
        List<Whole> list = listOf(genus);
        if (i == NONE) {
            return list.size();
        }
        return i < 0 || i >= list.size() ? NONE : pick(list.get(i).generators(), k);
    }

    int listed(int set) {
        Whole w = at(set);
        if (w == null) {
            return NONE;
        }
        if (w.gaps().size() > 8) {
            return -2;
        }
        List<Whole> list = listOf(w.gaps().size());
        for (int i = 0; i < list.size(); i++) {
            if (list.get(i).equalTo(w)) {
                return i;
            }
        }
        throw new IllegalStateException("not listed");
    }

    /** Those above a SET by their numbers. */
    private static TreeMap<Integer, Whole> aboves(Whole w) {
        List<Integer> gaps = w.gaps();
        TreeMap<Integer, Whole> out = new TreeMap<>();
        for (int n = 0; n < 1 << gaps.size(); n++) {
            Whole v = w.copy();
            for (int j = 0; j < gaps.size(); j++) {
                v.in[gaps.get(j)] |= (n >> j & 1) != 0;
            }
            if (v.closed()) {
                out.put(n, v);
            }
        }
        return out;
    }

    int above(int set) {
        Whole w = at(set);
        return w == null ? NONE : w.gaps().size() > 8 ? -2 : aboves(w).size();
    }

    int piece(int set, int i) {
        Whole w = at(set);
        if (w == null) {
            return NONE;
        }
        if (w.gaps().size() > 8) {
            return -2;
        }
        List<Integer> numbers = new ArrayList<>();
        for (Map.Entry<Integer, Whole> e : aboves(w).entrySet()) {
            if (e.getValue().lone()) {
                numbers.add(e.getKey());
            }
        }
        for (int size = 1;; size++) {
            List<Integer> best = firstChoice(numbers, 0, size, (1 << w.gaps().size()) - 1);
            if (best != null) {
                return pick(best, i);
            }
        }
    }

    private static List<Integer> firstChoice(List<Integer> numbers, int from, int size, int common) {
        if (size == 0) {
            return common == 0 ? new ArrayList<>() : null;
        }
        for (int j = from; j < numbers.size(); j++) {
            List<Integer> rest = firstChoice(numbers, j + 1, size - 1, common & numbers.get(j));
            if (rest != null) {
                rest.add(0, numbers.get(j));
                return rest;
            }
        }
        return null;
    }

    private static boolean wins(Whole w, int named, Map<List<Integer>, Boolean> known) {
        if (named == 1) {
            return false;
        }
        Whole next = w.with(named).closure();
        return !canWin(next, known);
    }

    private static boolean canWin(Whole w, Map<List<Integer>, Boolean> known) {
        List<Integer> gaps = w.gaps();
        Boolean before = known.get(gaps);
        if (before != null) {
            return before;
        }
        boolean can = false;
        for (int x : gaps) {
            can |= wins(w, x, known);
        }
        known.put(gaps, can);
        return can;
    }

    int good(int set, int i) {
        Whole w = at(set);
        if (w == null) {
            return NONE;
        }
        if (w.gaps().size() > 8) {
            return -2;
        }
        Map<List<Integer>, Boolean> known = new HashMap<>();
        List<Integer> list = new ArrayList<>();
        for (int x : w.gaps()) {
            if (wins(w, x, known)) {
                list.add(x);
            }
        }
        return pick(list, i);
    }

    int same(int set, int other) {
        Whole a = at(set);
        Whole b = at(other);
        if (a == null || b == null) {
            return NONE;
        }
        boolean ab = a.allOf(b);
        boolean ba = b.allOf(a);
        return ab && ba ? 1 : ab ? 2 : ba ? 3 : 0;
    }

    boolean hold(int slot) {
        if (slot < 0 || slot > 2) {
            return false;
        }
        slots.set(slot, new ArrayList<>(sets));
        return true;
    }

    boolean restore(int slot) {
        if (slot < 0 || slot > 2 || slots.get(slot) == null) {
            return false;
        }
        sets = new ArrayList<>(slots.get(slot));
        undo.clear();
        return true;
    }

    int count(int what) {
        switch (what) {
            case 0: return sets.size();
            case 1: return sets.stream().mapToInt(w -> w.gaps().size()).sum();
            case 2: return tape.length();
            case 3: return undo.size();
            case 4: return (int) slots.stream().filter(s -> s != null).count();
            case 5: {
                int bits = 0;
                for (int i = 0; i < sets.size(); i++) {
                    bits |= sets.get(i).lone() ? 1 << i : 0;
                }
                return bits;
            }
            case 6: return sets.stream().mapToInt(Whole::top).max().orElse(-2);
            case 7: {
                int found = 0;
                for (int x = 1; x < N; x++) {
                    int number = x;
                    found += !sets.isEmpty() && sets.stream().noneMatch(w -> w.has(number)) ? 1 : 0;
                }
                return found;
            }
            default: return NONE;
        }
    }
}
