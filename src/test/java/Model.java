import java.util.ArrayList;
import java.util.List;

/**
 * The document once more, in the plainest way: all layouts one by one, all ways of pins one by one. It shares no
 * idea with the class, so that both do not err alike; it is slow, and meant for up to 6 fingers.
 */
final class Model {
    static final int NONE = -1;

    static final class Wrong extends RuntimeException {
        private static final long serialVersionUID = 1L;
        final int spot;

        Wrong(int spot) {
            this.spot = spot;
        }
    }

    /** A layout: {finger, turn} by places. */
    static final class Layout {
        final List<int[]> places = new ArrayList<>();

        Layout copy() {
            Layout c = new Layout();
            for (int[] p : places) {
                c.places.add(p.clone());
            }
            return c;
        }
    }

    static final class Told {
        int unit = 0;
        int pitch = 0;
        final List<int[]> pairs = new ArrayList<>();
        final List<Integer> fingers = new ArrayList<>();
        final List<Integer> rails = new ArrayList<>();
        final List<Integer> pins = new ArrayList<>();
        final List<int[]> blocks = new ArrayList<>();
        List<Layout> best = null;
        int least = 0;
    }

    Told told = new Told();
    Layout layout = new Layout();
    final List<Layout> past = new ArrayList<>();
    Told keptTold = null;
    Layout keptLayout = null;
    int fault = NONE;

    // ---- the text

    private static final class Token {
        final char kind;
        final int begin;
        final String text;

        Token(char kind, int begin, String text) {
            this.kind = kind;
            this.begin = begin;
            this.text = text;
        }
    }

    private static List<Token> tokens(String s) {
        List<Token> all = new ArrayList<>();
        int i = 0;
        while (i < s.length()) {
            String rest = s.substring(i);
            String word = rest.replaceFirst("(?s)[^a-z].*", "");
            String digits = rest.replaceFirst("(?s)[^0-9].*", "");
            if (!word.isEmpty()) {
                all.add(new Token('w', i, word));
                i += word.length();
            } else if (!digits.isEmpty()) {
                all.add(new Token('n', i, digits));
                i += digits.length();
            } else {
                if (rest.charAt(0) != ' ') {
                    all.add(new Token('s', i, rest.substring(0, 1)));
                }
                i++;
            }
        }
        all.add(new Token('e', s.length(), ""));
        return all;
    }

    private List<Token> tokens;
    private int next;

    private Token take(char kind, String text) {
        Token t = tokens.get(next);
        if (t.kind != kind || text != null && !t.text.equals(text)) {
            throw new Wrong(t.begin);
        }
        next++;
        return t;
    }

    private int takeNumber(int low, int high) {
        Token t = take('n', null);
        if (t.text.length() > 2 || Integer.parseInt(t.text) < low || Integer.parseInt(t.text) > high) {
            throw new Wrong(t.begin);
        }
        return Integer.parseInt(t.text);
    }

    private void takeFresh(List<Integer> nets) {
        int n = takeNumber(0, 11);
        if (nets.contains(n)) {
            throw new Wrong(tokens.get(next - 1).begin);
        }
        nets.add(n);
    }

    /** How many fingers, or -2 if the text is wrong. */
    int cell(String text) {
        try {
            Told t = read(text);
            told = t;
            fault = NONE;
            past.clear();
            layout = new Layout();
            for (int f = 0; f < t.fingers.size(); f++) {
                layout.places.add(new int[] {f, 0});
            }
            return t.fingers.size();
        } catch (Wrong w) {
            fault = w.spot;
            return -2;
        }
    }

    private Told read(String text) {
        tokens = tokens(text);
        next = 0;
        Told t = new Told();
        take('w', "cell");
        t.unit = takeNumber(1, 9);
        t.pitch = takeNumber(1, 4);
        int lines = 0;
        while (tokens.get(next).kind != 'e') {
            take('s', ";");
            readLine(t, lines);
            lines++;
        }
        return t;
    }

    private void readLine(Told t, int lines) {
        Token word = take('w', null);
        boolean tooMany = lines >= 20;
        switch (word.text) {
            case "pair" -> {
                if (tooMany || t.pairs.size() == 8) {
                    throw new Wrong(word.begin);
                }
                int[] p = new int[6];
                p[0] = takeNumber(0, 11);
                take('w', "up");
                p[1] = takeNumber(0, 11);
                p[2] = takeNumber(0, 11);
                take('w', "low");
                p[3] = takeNumber(0, 11);
                p[4] = takeNumber(0, 11);
                p[5] = 1;
                if (tokens.get(next).kind == 'w' && tokens.get(next).text.equals("wide")) {
                    next++;
                    p[5] = takeNumber(1, 40);
                }
                for (int w = 0; w < p[5]; w += t.unit) {
                    t.fingers.add(t.pairs.size());
                }
                t.pairs.add(p);
                if (t.fingers.size() > 8) {
                    throw new Wrong(word.begin);
                }
            }
            case "rail" -> {
                if (tooMany) {
                    throw new Wrong(word.begin);
                }
                takeFresh(t.rails);
            }
            case "pin" -> {
                if (tooMany || t.pins.size() == 6) {
                    throw new Wrong(word.begin);
                }
                takeFresh(t.pins);
            }
            case "block" -> {
                if (tooMany || t.blocks.size() == 6) {
                    throw new Wrong(word.begin);
                }
                int[] b = {takeNumber(0, 11), takeNumber(0, 40), 0};
                b[2] = takeNumber(b[1], 40);
                t.blocks.add(b);
            }
            default -> throw new Wrong(word.begin);
        }
    }

    // ---- a layout

    int fingers() {
        return told.fingers.size();
    }

    private int[] pairOf(int[] place) {
        return told.pairs.get(told.fingers.get(place[0]));
    }

    int upLeft(int[] p) {
        return p[1] == 1 || p[1] == 3 ? pairOf(p)[2] : pairOf(p)[1];
    }

    int upRight(int[] p) {
        return p[1] == 1 || p[1] == 3 ? pairOf(p)[1] : pairOf(p)[2];
    }

    int lowLeft(int[] p) {
        return p[1] >= 2 ? pairOf(p)[4] : pairOf(p)[3];
    }

    int lowRight(int[] p) {
        return p[1] >= 2 ? pairOf(p)[3] : pairOf(p)[4];
    }

    int misses(int[] a, int[] b) {
        return (upRight(a) == upLeft(b) ? 0 : 1) + (lowRight(a) == lowLeft(b) ? 0 : 1);
    }

    int gaps(Layout l) {
        int g = 0;
        for (int i = 1; i < l.places.size(); i++) {
            g += misses(l.places.get(i - 1), l.places.get(i)) > 0 ? 1 : 0;
        }
        return g;
    }

    int breaks(Layout l) {
        int b = 0;
        for (int i = 1; i < l.places.size(); i++) {
            b += misses(l.places.get(i - 1), l.places.get(i));
        }
        return b;
    }

    /** Columns as {up, low, gate}. */
    List<int[]> columns(Layout l) {
        List<int[]> all = new ArrayList<>();
        for (int i = 0; i < l.places.size(); i++) {
            int[] p = l.places.get(i);
            if (i == 0 || misses(l.places.get(i - 1), p) > 0) {
                all.add(new int[] {upLeft(p), lowLeft(p), NONE});
            }
            all.add(new int[] {NONE, NONE, pairOf(p)[0]});
            all.add(new int[] {upRight(p), lowRight(p), NONE});
        }
        return all;
    }

    int gateColumn(Layout l, int place) {
        List<int[]> all = columns(l);
        int gates = 0;
        for (int c = 0; c < all.size(); c++) {
            if (all.get(c)[2] != NONE && gates++ == place) {
                return c;
            }
        }
        throw new IllegalStateException();
    }

    List<Integer> columnsOf(Layout l, int net) {
        List<Integer> has = new ArrayList<>();
        List<int[]> all = columns(l);
        for (int c = 0; c < all.size(); c++) {
            if (all.get(c)[0] == net || all.get(c)[1] == net || all.get(c)[2] == net) {
                has.add(c);
            }
        }
        return has;
    }

    /** The columns of pins by nets (NONE), and the stretch behind; null without PINNING. */
    int[] pinning(Layout l) {
        List<Integer> nets = new ArrayList<>();
        for (int n = 0; n < 12; n++) {
            if (told.pins.contains(n) && !columnsOf(l, n).isEmpty()) {
                nets.add(n);
            }
        }
        int span = columns(l).size();
        List<Integer> slots = new ArrayList<>();
        for (int c = 0; c < span; c++) {
            if (c % told.pitch == 0) {
                slots.add(c);
            }
        }
        if (slots.size() < nets.size()) {
            return null;
        }
        int[] at = new int[13];
        java.util.Arrays.fill(at, NONE);
        for (int budget = 0; ; budget++) {
            if (tryPins(l, nets, 0, slots, budget, at)) {
                at[12] = budget;
                return at;
            }
        }
    }

    private boolean tryPins(Layout l, List<Integer> nets, int i, List<Integer> slots, int budget, int[] at) {
        if (i == nets.size()) {
            return true;
        }
        int n = nets.get(i);
        List<Integer> has = columnsOf(l, n);
        for (int c : slots) {
            boolean taken = false;
            for (int j = 0; j < i; j++) {
                taken |= at[nets.get(j)] == c;
            }
            int far = 0;
            if (c < has.get(0)) {
                far = has.get(0) - c;
            } else if (c > has.get(has.size() - 1)) {
                far = c - has.get(has.size() - 1);
            }
            if (!taken && far <= budget) {
                at[n] = c;
                if (tryPins(l, nets, i + 1, slots, budget - far, at)) {
                    return true;
                }
                at[n] = NONE;
            }
        }
        return false;
    }

    /** Wires by nets as {first, last}, null where there is none. */
    int[][] wires(Layout l) {
        int[] pins = pinning(l);
        int[][] all = new int[12][];
        for (int n = 0; n < 12; n++) {
            List<Integer> has = new ArrayList<>(columnsOf(l, n));
            if (has.isEmpty() || told.rails.contains(n)) {
                continue;
            }
            if (pins != null && pins[n] != NONE && !has.contains(pins[n])) {
                has.add(pins[n]);
                has.sort(null);
            }
            if (has.size() >= 2) {
                all[n] = new int[] {has.get(0), has.get(has.size() - 1)};
            }
        }
        return all;
    }

    int cut(Layout l, int column) {
        int cut = 0;
        for (int[] w : wires(l)) {
            cut += w != null && w[0] <= column && column <= w[1] ? 1 : 0;
        }
        return cut;
    }

    int length(Layout l) {
        int length = 0;
        for (int[] w : wires(l)) {
            length += w == null ? 0 : w[1] - w[0];
        }
        return length;
    }

    int[] tracks(Layout l) {
        int[][] wires = wires(l);
        int[] track = new int[12];
        java.util.Arrays.fill(track, NONE);
        List<Integer> order = new ArrayList<>();
        for (int n = 0; n < 12; n++) {
            if (wires[n] != null) {
                order.add(n);
            }
        }
        order.sort((a, b) -> wires[a][0] != wires[b][0] ? wires[a][0] - wires[b][0] : a - b);
        for (int n : order) {
            for (int t = 0; t < 12 && track[n] == NONE; t++) {
                if (couldBe(wires, track, n, t)) {
                    track[n] = t;
                }
            }
        }
        return track;
    }

    boolean couldBe(int[][] wires, int[] track, int n, int t) {
        for (int c = wires[n][0]; c <= wires[n][1]; c++) {
            for (int m = 0; m < 12; m++) {
                if (m != n && track[m] == t && wires[m][0] <= c && c <= wires[m][1]) {
                    return false;
                }
            }
            for (int[] b : told.blocks) {
                if (b[0] == t && b[1] <= c && c <= b[2]) {
                    return false;
                }
            }
        }
        return true;
    }

    Layout mirrored(Layout l) {
        Layout m = new Layout();
        for (int[] p : l.places) {
            m.places.add(0, new int[] {p[0], new int[] {3, 2, 1, 0}[p[1]]});
        }
        return m;
    }

    Layout moved(Layout l, int place, int to) {
        Layout m = l.copy();
        int[] p = m.places.remove(place);
        m.places.add(to, p);
        return m;
    }

    Layout turned(Layout l, int place, int turn) {
        Layout m = l.copy();
        m.places.get(place)[1] = turn;
        return m;
    }

    boolean same(Layout l) {
        List<int[]> a = columns(l);
        List<int[]> b = columns(mirrored(l));
        for (int c = 0; c < a.size(); c++) {
            if (!java.util.Arrays.equals(a.get(c), b.get(c))) {
                return false;
            }
        }
        return true;
    }

    // ---- all layouts

    /** The fewest gaps of any order of a set; orders begin with first and end with last, if these are fingers. */
    int fewest(int set, int first, int last) {
        int fewest = Integer.MAX_VALUE;
        if (set == 0) {
            return 0;
        }
        for (int f = 0; f < fingers(); f++) {
            if ((set >> f & 1) != 0 && (first < 0 || f == first)) {
                for (int t = 0; t < 4; t++) {
                    fewest = Math.min(fewest, fewestBehind(new int[] {f, t}, set & ~(1 << f), last, fewest));
                }
            }
        }
        return fewest;
    }

    private int fewestBehind(int[] p, int rest, int last, int limit) {
        if (rest == 0) {
            return last < 0 || p[0] == last ? 0 : 1000;
        }
        int fewest = 1000;
        for (int f = 0; f < fingers(); f++) {
            if ((rest >> f & 1) != 0) {
                for (int t = 0; t < 4; t++) {
                    int[] q = {f, t};
                    int gap = misses(p, q) > 0 ? 1 : 0;
                    if (gap < Math.min(limit, fewest)) {
                        int more = fewestBehind(q, rest & ~(1 << f), last, Math.min(limit, fewest) - gap);
                        fewest = Math.min(fewest, gap + more);
                    }
                }
            }
        }
        return fewest;
    }

    private void findBest() {
        if (told.best == null) {
            told.best = new ArrayList<>();
            told.least = Integer.MAX_VALUE;
            goOn(new Layout(), 0, 0);
        }
    }

    private void goOn(Layout so, int set, int gaps) {
        if (gaps > told.least) {
            return;
        }
        if (so.places.size() == fingers()) {
            if (gaps < told.least) {
                told.best.clear();
                told.least = gaps;
            }
            told.best.add(so.copy());
            return;
        }
        for (int f = 0; f < fingers(); f++) {
            for (int t = 0; t < 4 && (set >> f & 1) == 0; t++) {
                int[] p = {f, t};
                int size = so.places.size();
                int gap = size > 0 && misses(so.places.get(size - 1), p) > 0 ? 1 : 0;
                so.places.add(p);
                goOn(so, set | 1 << f, gaps + gap);
                so.places.remove(size);
            }
        }
    }

    List<Layout> best() {
        findBest();
        return told.best;
    }

    int least() {
        findBest();
        return told.least;
    }

    int bound(boolean up) {
        int[] part = new int[12];
        int[] times = new int[12];
        for (int n = 0; n < 12; n++) {
            part[n] = n;
        }
        for (int pair : told.fingers) {
            int a = told.pairs.get(pair)[up ? 1 : 3];
            int b = told.pairs.get(pair)[up ? 2 : 4];
            times[a]++;
            times[b]++;
            int from = part[a];
            for (int n = 0; n < 12; n++) {
                part[n] = part[n] == from ? part[b] : part[n];
            }
        }
        int sum = 0;
        for (int label = 0; label < 12; label++) {
            int nets = 0;
            int odd = 0;
            for (int n = 0; n < 12; n++) {
                if (part[n] == label && times[n] > 0) {
                    nets++;
                    odd += times[n] % 2;
                }
            }
            sum += nets == 0 ? 0 : Math.max(1, odd / 2);
        }
        return fingers() == 0 ? 0 : sum - 1;
    }

    boolean tied(int f, int g) {
        for (int t = 0; t < 16; t++) {
            if (misses(new int[] {f, t / 4}, new int[] {g, t % 4}) == 0) {
                return true;
            }
        }
        return false;
    }

    /** {gaps, kind, place, to}. */
    int[] better() {
        int[] found = {NONE, NONE, NONE, NONE};
        for (int p = 0; p < fingers(); p++) {
            for (int t = 0; t < 4; t++) {
                if (t != layout.places.get(p)[1]) {
                    found = lesser(found, new int[] {gaps(turned(layout, p, t)), 1, p, t});
                }
            }
        }
        for (int p = 0; p < fingers(); p++) {
            for (int q = 0; q < fingers(); q++) {
                if (p != q) {
                    found = lesser(found, new int[] {gaps(moved(layout, p, q)), 2, p, q});
                }
            }
        }
        return found;
    }

    private static int[] lesser(int[] a, int[] b) {
        return a[0] == NONE || b[0] < a[0] ? b : a;
    }

    // ---- by hand

    void change(Layout next) {
        past.add(layout);
        if (past.size() > 8) {
            past.remove(0);
        }
        layout = next;
    }
}
